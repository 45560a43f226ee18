import java.util.ArrayList;
import java.util.Arrays;
import java.util.Collections;
import java.util.HashMap;
import java.util.List;
import java.util.Map;
import java.util.TreeSet;

/**
 * The document once more, in the plainest way and with all of Java's library: nodes are objects,
 * the mapping is settled step by step as the document tells it. Slow, and made to be compared.
 */
final class PlainModel {
    static final class Node {
        int name;
        int kind;
        String label;
        String text = "";
        List<Node> children = new ArrayList<>();

        Node copy() {
            Node twin = new Node();
            twin.name = name;
            twin.kind = kind;
            twin.label = label;
            twin.text = text;
            for (Node child : children) {
                twin.children.add(child.copy());
            }
            return twin;
        }
    }

    private static final class Wrong extends Exception {
        private static final long serialVersionUID = 1L;
        final int at;

        Wrong(int at) {
            this.at = at;
        }
    }

    final Node[] places = new Node[8];
    private String tape = "";
    private String written = "";
    private int nextName;
    private final int[] prices = {2, 1, 3, 3};
    private final Map<Integer, Integer> found = new HashMap<>();
    private List<int[]> pairs = new ArrayList<>();
    private List<int[]> acts = new ArrayList<>();
    private int mappedNodes;
    private List<int[]> clashes = new ArrayList<>();
    private int merged;

    private int tell(int finding) {
        found.merge(finding, 1, Integer::sum);
        return finding;
    }

    // ---- trees

    static List<Node> ahead(Node root) {
        List<Node> nodes = new ArrayList<>();
        nodes.add(root);
        for (Node child : root.children) {
            nodes.addAll(ahead(child));
        }
        return nodes;
    }

    static List<Node> behind(Node root) {
        List<Node> nodes = new ArrayList<>();
        for (Node child : root.children) {
            nodes.addAll(behind(child));
        }
        nodes.add(root);
        return nodes;
    }

    private static Node byName(Node root, int name) {
        for (Node node : ahead(root)) {
            if (node.name == name) {
                return node;
            }
        }
        return null;
    }

    private static Node parent(Node root, Node of) {
        for (Node node : ahead(root)) {
            if (node.children.contains(of)) {
                return node;
            }
        }
        return null;
    }

    private static int height(Node root) {
        int height = 0;
        for (Node child : root.children) {
            height = Math.max(height, 1 + height(child));
        }
        return height;
    }

    private static int depth(Node root, Node node) {
        int depth = 0;
        for (Node above = parent(root, node); above != null; above = parent(root, above)) {
            depth++;
        }
        return depth;
    }

    private static boolean keysClash(Node root) {
        for (Node node : ahead(root)) {
            TreeSet<String> labels = new TreeSet<>();
            for (Node child : node.children) {
                if (!labels.add(child.label) && node.kind == 2) {
                    return true;
                }
            }
        }
        return false;
    }

    // ---- texts

    private int at;
    private int nodesRead;

    private boolean here(String signs) {
        return at < tape.length() && signs.indexOf(tape.charAt(at)) >= 0;
    }

    private Node parse() throws Wrong {
        at = 0;
        nodesRead = 0;
        Node root = parseNode(0, null);
        if (at < tape.length()) {
            throw new Wrong(at);
        }
        return root;
    }

    private static final String LETTERS = "abcdefghijklmnopqrstuvwxyz";

    private Node parseNode(int depth, Node parent) throws Wrong {
        int start = at;
        if (depth == 12 || nodesRead == 30 || !here(LETTERS)) {
            throw new Wrong(at);
        }
        nodesRead++;
        Node node = new Node();
        node.label = signs(LETTERS, 6);
        if (parent != null && parent.kind == 2) {
            for (Node sibling : parent.children) {
                if (sibling.label.equals(node.label)) {
                    throw new Wrong(start);
                }
            }
        }
        if (here("=")) {
            at++;
            node.text = signs(LETTERS + "0123456789", 8);
        }
        if (here("!")) {
            node.kind = 3;
            at++;
        } else if (here("({<")) {
            node.kind = "({<".indexOf(tape.charAt(at));
            String closer = ")}>".substring(node.kind, node.kind + 1);
            at++;
            if (node.kind == 0 || !here(closer)) {
                node.children.add(parseNode(depth + 1, node));
                while (here(",")) {
                    at++;
                    node.children.add(parseNode(depth + 1, node));
                }
            }
            if (!here(closer)) {
                throw new Wrong(at);
            }
            at++;
        }
        return node;
    }

    private String signs(String allowed, int most) throws Wrong {
        int start = at;
        while (here(allowed)) {
            if (at - start == most) {
                throw new Wrong(at);
            }
            at++;
        }
        if (at == start) {
            throw new Wrong(at);
        }
        return tape.substring(start, at);
    }

    static String text(Node node) {
        StringBuilder text = new StringBuilder(node.label);
        text.append(node.text.isEmpty() ? "" : "=" + node.text);
        List<String> parts = new ArrayList<>();
        for (Node child : node.children) {
            parts.add(text(child));
        }
        String inside = String.join(",", parts);
        switch (node.kind) {
            case 0: return text + (inside.isEmpty() ? "" : "(" + inside + ")");
            case 1: return text + "{" + inside + "}";
            case 2: return text + "<" + inside + ">";
            default: return text + "!";
        }
    }

    // ---- the face

    int feed(long w, int n) {
        if (n < 1 || n > 8) {
            return tell(-1);
        }
        if (tape.length() + n > 400) {
            return tell(-5);
        }
        for (int k = 0; k < n; k++) {
            tape += (char) (w >>> 8 * k & 255);
        }
        return tape.length();
    }

    int read(int p) {
        if (p < 0 || p > 7) {
            return tell(-1);
        }
        try {
            places[p] = parse();
            tape = "";
            for (Node node : ahead(places[p])) {
                node.name = nextName++;
            }
            return ahead(places[p]).size();
        } catch (Wrong wrong) {
            tape = "";
            tell(-9);
            return -10 - wrong.at;
        }
    }

    private int tree(int p) {
        if (p < 0 || p > 7) {
            return -1;
        }
        return places[p] == null ? -2 : 0;
    }

    private int trees(int... ps) {
        for (int p : ps) {
            if (tree(p) < 0) {
                return tree(p);
            }
        }
        return 0;
    }

    int write(int p) {
        if (tree(p) < 0) {
            return tell(tree(p));
        }
        written = text(places[p]);
        return written.length();
    }

    int letter(int i) {
        return i < 0 || i >= written.length() ? -1 : written.charAt(i);
    }

    int copy(int p, int q) {
        if (tree(p) < 0) {
            return tell(tree(p));
        }
        if (q < 0 || q > 7) {
            return tell(-1);
        }
        places[q] = places[p].copy();
        return size(q);
    }

    int clear(int p) {
        if (p < 0 || p > 7) {
            return tell(-1);
        }
        int had = places[p] == null ? 0 : 1;
        places[p] = null;
        return had;
    }

    int node(int p, int i, int what) {
        if (tree(p) < 0) {
            return tell(tree(p));
        }
        List<Node> nodes = ahead(places[p]);
        if (i < 0 || i >= nodes.size() || what < 0 || what > 8) {
            return tell(-1);
        }
        Node node = nodes.get(i);
        Node parent = parent(places[p], node);
        int[] answers = {node.name, node.kind, node.children.size(), depth(places[p], node),
            parent == null ? -8 : parent.name, ahead(node).size(), behind(places[p]).indexOf(node),
            node.label.length(), node.text.length()};
        return answers[what];
    }

    int size(int p) {
        return tree(p) < 0 ? tell(tree(p)) : ahead(places[p]).size();
    }

    private int nodeOf(int p, int name) {
        if (tree(p) < 0) {
            return tree(p);
        }
        return byName(places[p], name) == null ? -6 : 0;
    }

    private String useTape() {
        String used = tape;
        tape = "";
        return used;
    }

    int relabel(int p, int name) {
        if (nodeOf(p, name) < 0) {
            return tell(nodeOf(p, name));
        }
        String label = useTape();
        if (!label.matches("[a-z]{1,6}")) {
            return tell(-3);
        }
        Node node = byName(places[p], name);
        Node parent = parent(places[p], node);
        if (parent != null && parent.kind == 2) {
            for (Node child : parent.children) {
                if (child != node && child.label.equals(label)) {
                    return tell(-4);
                }
            }
        }
        node.label = label;
        return label.length();
    }

    int retext(int p, int name) {
        if (nodeOf(p, name) < 0) {
            return tell(nodeOf(p, name));
        }
        String text = useTape();
        if (!text.matches("[a-z0-9]{0,8}")) {
            return tell(-3);
        }
        byName(places[p], name).text = text;
        return text.length();
    }

    int put(int p, int name, int kind, int from, int n) {
        if (nodeOf(p, name) < 0) {
            return tell(nodeOf(p, name));
        }
        String label = useTape();
        Node after = places[p].copy();
        Node node = byName(after, name);
        if (kind < 0 || kind > 2 || node.kind == 3 || !label.matches("[a-z]{1,6}")) {
            return tell(-3);
        }
        if (from < 0 || n < 0 || (long) from + n > node.children.size()) {
            return tell(-1);
        }
        Node put = new Node();
        put.name = nextName;
        put.kind = kind;
        put.label = label;
        List<Node> taken = node.children.subList(from, from + n);
        put.children.addAll(taken);
        taken.clear();
        node.children.add(from, put);
        if (ahead(after).size() > 30 || height(after) > 11) {
            return tell(-5);
        }
        if (keysClash(after)) {
            return tell(-4);
        }
        places[p] = after;
        return nextName++;
    }

    int take(int p, int name) {
        if (nodeOf(p, name) < 0) {
            return tell(nodeOf(p, name));
        }
        Node after = places[p].copy();
        Node node = byName(after, name);
        if (node == after) {
            return tell(-7);
        }
        List<Node> siblings = parent(after, node).children;
        int at = siblings.indexOf(node);
        siblings.remove(at);
        siblings.addAll(at, node.children);
        if (keysClash(after)) {
            return tell(-4);
        }
        places[p] = after;
        return node.children.size();
    }

    int move(int p, int name, int parent, int from) {
        if (nodeOf(p, name) < 0) {
            return tell(nodeOf(p, name));
        }
        Node after = places[p].copy();
        Node node = byName(after, name);
        if (node == after) {
            return tell(-7);
        }
        Node target = byName(after, parent);
        if (target == null) {
            return tell(-6);
        }
        if (target.kind == 3) {
            return tell(-3);
        }
        if (ahead(node).contains(target)) {
            return tell(-7);
        }
        parent(after, node).children.remove(node);
        if (from < 0 || from > target.children.size()) {
            return tell(-1);
        }
        target.children.add(from, node);
        if (height(after) > 11) {
            return tell(-5);
        }
        if (keysClash(after)) {
            return tell(-4);
        }
        places[p] = after;
        return ahead(node).size();
    }

    int price(int act, int v) {
        if (act < 0 || act > 3 || v < 0 || v > 1000) {
            return tell(-1);
        }
        int was = prices[act];
        prices[act] = v;
        return was;
    }

    // ---- mappings

    private static final int NEVER = 1 << 28;
    private static final int OPEN = -2;
    private static final int ALONE = -1;

    /** Two trees BEHIND, and what of them is settled: OPEN, ALONE, or the number of the other node. */
    private final class Comparison {
        final List<Node> first;
        final List<Node> second;
        final int[] firstSettled;
        final int[] secondSettled;
        private final Map<Integer, Integer> known = new HashMap<>();

        Comparison(Node p, Node q) {
            first = behind(p);
            second = behind(q);
            firstSettled = new int[first.size()];
            secondSettled = new int[second.size()];
            Arrays.fill(firstSettled, OPEN);
            Arrays.fill(secondSettled, OPEN);
        }

        int least() {
            known.clear();
            return least(0, first.size(), 0, second.size());
        }

        /** Of the nodes BEHIND from .. to (not included) of both: their last ones are roots. */
        private int least(int firstFrom, int firstTo, int secondFrom, int secondTo) {
            if (firstFrom == firstTo && secondFrom == secondTo) {
                return 0;
            }
            int key = ((firstFrom * 31 + firstTo) * 31 + secondFrom) * 31 + secondTo;
            Integer before = known.get(key);
            if (before != null) {
                return before;
            }
            int best = NEVER;
            int x = firstTo - 1;
            int y = secondTo - 1;
            if (firstFrom < firstTo && (firstSettled[x] == OPEN || firstSettled[x] == ALONE)) {
                best = Math.min(best, prices[3] + least(firstFrom, x, secondFrom, secondTo));
            }
            if (secondFrom < secondTo && (secondSettled[y] == OPEN || secondSettled[y] == ALONE)) {
                best = Math.min(best, prices[2] + least(firstFrom, firstTo, secondFrom, y));
            }
            if (firstFrom < firstTo && secondFrom < secondTo && mayPair(x, y)) {
                int underX = x - (ahead(first.get(x)).size() - 1);
                int underY = y - (ahead(second.get(y)).size() - 1);
                best = Math.min(best, pairPrice(first.get(x), second.get(y)) + least(underX, x, underY, y)
                    + least(firstFrom, underX, secondFrom, underY));
            }
            best = Math.min(best, NEVER);
            known.put(key, best);
            return best;
        }

        private boolean mayPair(int x, int y) {
            boolean agrees = firstSettled[x] == OPEN && secondSettled[y] == OPEN || firstSettled[x] == y && secondSettled[y] == x;
            return agrees && PlainModel.mayPair(first.get(x), second.get(y));
        }

        private boolean forcedApart(int x, int y) {
            for (int a = 0; a < first.size(); a++) {
                if (firstSettled[a] >= 0) {
                    boolean under = a != x && ahead(first.get(a)).contains(first.get(x));
                    int b = firstSettled[a];
                    boolean otherUnder = b != y && ahead(second.get(b)).contains(second.get(y));
                    if (under && !otherUnder) {
                        return true;
                    }
                }
            }
            return false;
        }

        private boolean forcedApartSecond(int x, int y) {
            for (int b = 0; b < second.size(); b++) {
                if (secondSettled[b] >= 0) {
                    boolean under = b != y && ahead(second.get(b)).contains(second.get(y));
                    int a = secondSettled[b];
                    boolean otherUnder = a != x && ahead(first.get(a)).contains(first.get(x));
                    if (under && !otherUnder) {
                        return true;
                    }
                }
            }
            return false;
        }

        void settle() {
            int due = least();
            int x = first.size() - 1;
            int y = second.size() - 1;
            while (x >= 0 || y >= 0) {
                if (y < 0) {
                    firstSettled[x--] = ALONE;
                } else if (x < 0) {
                    secondSettled[y--] = ALONE;
                } else if (forcedApart(x, y)) {
                    firstSettled[x--] = ALONE;
                } else if (forcedApartSecond(x, y)) {
                    secondSettled[y--] = ALONE;
                } else {
                    firstSettled[x] = y;
                    secondSettled[y] = x;
                    if (PlainModel.mayPair(first.get(x), second.get(y)) && least() == due) {
                        x--;
                        y--;
                        continue;
                    }
                    secondSettled[y] = OPEN;
                    firstSettled[x] = ALONE;
                    if (least() == due) {
                        x--;
                        continue;
                    }
                    firstSettled[x] = OPEN;
                    secondSettled[y--] = ALONE;
                }
            }
        }
    }

    private static boolean mayPair(Node a, Node b) {
        return a.kind == b.kind && (a.kind != 3 || a.label.equals(b.label) && a.text.equals(b.text));
    }

    private int pairPrice(Node a, Node b) {
        return (a.label.equals(b.label) ? 0 : prices[0]) + (a.text.equals(b.text) ? 0 : prices[1]);
    }

    int distance(int p, int q) {
        return trees(p, q) < 0 ? tell(trees(p, q)) : new Comparison(places[p], places[q]).least();
    }

    int map(int p, int q) {
        if (trees(p, q) < 0) {
            return tell(trees(p, q));
        }
        Comparison made = new Comparison(places[p], places[q]);
        made.settle();
        pairs = new ArrayList<>();
        acts = new ArrayList<>();
        mappedNodes = made.first.size() + made.second.size();
        for (Node node : ahead(places[p])) {
            if (made.firstSettled[made.first.indexOf(node)] < 0) {
                acts.add(new int[] {3, node.name, prices[3]});
            }
        }
        for (Node node : ahead(places[p])) {
            int y = made.firstSettled[made.first.indexOf(node)];
            if (y >= 0) {
                Node other = made.second.get(y);
                pairs.add(new int[] {node.name, other.name});
                if (!node.label.equals(other.label)) {
                    acts.add(new int[] {0, node.name, prices[0]});
                }
                if (!node.text.equals(other.text)) {
                    acts.add(new int[] {1, node.name, prices[1]});
                }
            }
        }
        for (int y = 0; y < made.second.size(); y++) {
            if (made.secondSettled[y] < 0) {
                acts.add(new int[] {2, made.second.get(y).name, prices[2]});
            }
        }
        return pairs.size();
    }

    private int entry(List<int[]> rows, int i, int what) {
        if (i < 0 || i >= rows.size()) {
            return tell(-6);
        }
        int[] row = rows.get(i);
        return what < 0 || what >= row.length ? tell(-1) : row[what];
    }

    int pair(int i, int what) {
        return entry(pairs, i, what);
    }

    int acts() {
        return acts.size();
    }

    int act(int i, int what) {
        return entry(acts, i, what);
    }

    int like() {
        return mappedNodes == 0 ? tell(-6) : 200 * pairs.size() / mappedNodes;
    }

    // ---- SAME

    /** One text for all trees that are the SAME. */
    private static String form(Node node) {
        List<String> forms = new ArrayList<>();
        for (Node child : node.children) {
            forms.add(form(child));
        }
        if (node.kind != 0) {
            Collections.sort(forms);
        }
        return node.kind + node.label + "=" + node.text + forms;
    }

    private static TreeSet<String> forms(Node root) {
        TreeSet<String> forms = new TreeSet<>();
        for (Node node : ahead(root)) {
            forms.add(form(node));
        }
        return forms;
    }

    int same(int p, int q) {
        if (trees(p, q) < 0) {
            return tell(trees(p, q));
        }
        return form(places[p]).equals(form(places[q])) ? 1 : 0;
    }

    int unlike(int p) {
        return tree(p) < 0 ? tell(tree(p)) : forms(places[p]).size();
    }

    int shared(int p, int q) {
        if (trees(p, q) < 0) {
            return tell(trees(p, q));
        }
        int shared = 0;
        for (Node node : ahead(places[p])) {
            shared += forms(places[q]).contains(form(node)) ? 1 : 0;
        }
        return shared;
    }

    // ---- merging

    private static Map<Integer, Node> named(Node root) {
        Map<Integer, Node> named = new HashMap<>();
        for (Node node : ahead(root)) {
            named.put(node.name, node);
        }
        return named;
    }

    /** Kind, label, text and list of a node, in that order. */
    private static List<Object> fields(Node node) {
        List<Integer> list = new ArrayList<>();
        for (Node child : node.children) {
            list.add(child.name);
        }
        return List.of(node.kind, node.label, node.text, list);
    }

    int merge(int o, int l, int r, int to) {
        if (trees(o, l, r) < 0) {
            return tell(trees(o, l, r));
        }
        if (to < 0 || to > 7) {
            return tell(-1);
        }
        clashes = new ArrayList<>();
        merged = 0;
        int root = places[o].name;
        if (places[l].name != root || places[r].name != root) {
            clashes.add(new int[] {-1, 4});
            return 1;
        }
        Map<Integer, List<Object>> settled = settleFields(named(places[o]), named(places[l]), named(places[r]));
        Node made = grow(root, settled, new TreeSet<>(), 0);
        if (made == null || keysClash(made)) {
            clashes.add(0, new int[] {-1, 5});
        } else {
            places[to] = made;
            merged = ahead(made).size();
        }
        return clashes.size();
    }

    private Map<Integer, List<Object>> settleFields(Map<Integer, Node> o, Map<Integer, Node> l, Map<Integer, Node> r) {
        TreeSet<Integer> names = new TreeSet<>(l.keySet());
        names.addAll(r.keySet());
        Map<Integer, List<Object>> settled = new HashMap<>();
        for (int name : names) {
            if (!l.containsKey(name) || !r.containsKey(name)) {
                settled.put(name, fields(l.containsKey(name) ? l.get(name) : r.get(name)));
                continue;
            }
            List<Object> ours = fields(l.get(name));
            List<Object> theirs = fields(r.get(name));
            List<Object> chosen = new ArrayList<>();
            for (int what = 0; what < 4; what++) {
                Object our = ours.get(what);
                Object their = theirs.get(what);
                if (!o.containsKey(name)) {
                    chosen.add(our);
                    if (!our.equals(their)) {
                        clashes.add(new int[] {name, what});
                    }
                    continue;
                }
                Object was = fields(o.get(name)).get(what);
                if (our.equals(was)) {
                    chosen.add(their);
                } else if (their.equals(was) || our.equals(their)) {
                    chosen.add(our);
                } else {
                    chosen.add(was);
                    clashes.add(new int[] {name, what});
                }
            }
            settled.put(name, chosen);
        }
        return settled;
    }

    private static Node grow(int name, Map<Integer, List<Object>> settled, TreeSet<Integer> met, int depth) {
        if (depth == 12 || !settled.containsKey(name) || !met.add(name) || met.size() > 30) {
            return null;
        }
        List<Object> fields = settled.get(name);
        Node node = new Node();
        node.name = name;
        node.kind = (Integer) fields.get(0);
        node.label = (String) fields.get(1);
        node.text = (String) fields.get(2);
        for (Object child : (List<?>) fields.get(3)) {
            Node grown = node.kind == 3 ? null : grow((Integer) child, settled, met, depth + 1);
            if (grown == null) {
                return null;
            }
            node.children.add(grown);
        }
        return node;
    }

    int merged() {
        return merged;
    }

    int clash(int i, int what) {
        return entry(clashes, i, what);
    }

    int found(int finding) {
        boolean named = finding >= -7 && finding <= -1 || finding == -9;
        return named ? found.getOrDefault(finding, 0) : tell(-1);
    }
}
