import java.util.List;
import java.util.Random;

/** Long runs of chosen and of wild calls, each answered alike by the class and by the plain model. */
public final class ModelTest {
    private final Random random;
    private final int run;
    private final int mostNodes;
    private final BranchMender mender = new BranchMender();
    private final PlainModel model = new PlainModel();
    private int calls;

    private ModelTest(int run, int mostNodes) {
        this.run = run;
        this.mostNodes = mostNodes;
        this.random = new Random(run * 7919L + mostNodes);
    }

    public static void main(String[] args) {
        for (int run = 0; run < 1200 && !Bench.hasFailed(); run++) {
            int[] sizes = {4, 7, 12, 30};
            new ModelTest(run, sizes[run % 4]).play();
        }
        Bench.end("runs beside the plain model");
    }

    private void due(String call, int got, int want) {
        calls++;
        Bench.due("run " + run + ", call " + calls + ": " + call, got, want);
    }

    private void play() {
        while (calls < 470 && !Bench.hasFailed()) {
            step();
            if (random.nextInt(8) == 0) {
                look(random.nextInt(8));
            }
        }
        for (int finding = -10; finding <= 0; finding++) {
            due("found " + finding, mender.found(finding), model.found(finding));
        }
    }

    private void step() {
        int choice = random.nextInt(20);
        if (choice < 3) {
            readTree();
        } else if (choice < 5) {
            copyTree();
        } else if (choice < 12) {
            changeTree(random.nextInt(8));
        } else if (choice < 14) {
            compare(place(), place());
        } else if (choice < 17) {
            mergeTrees();
        } else if (choice < 18) {
            int act = random.nextInt(5);
            int v = random.nextInt(3) == 0 ? random.nextInt(1003) - 1 : random.nextInt(5);
            due("price", mender.price(act, v), model.price(act, v));
        } else {
            wildCall();
        }
    }

    private int place() {
        return random.nextInt(12) == 0 ? random.nextInt(11) - 1 : random.nextInt(4);
    }

    private void feed(String text) {
        for (int start = 0; start < text.length(); start += 8) {
            int n = Math.min(8, text.length() - start);
            long word = 0;
            for (int k = n - 1; k >= 0; k--) {
                word = word << 8 | text.charAt(start + k);
            }
            due("feed " + text, mender.feed(word, n), model.feed(word, n));
        }
    }

    private String word(String signs, int most) {
        StringBuilder word = new StringBuilder();
        for (int n = 1 + random.nextInt(most); n > 0; n--) {
            word.append(signs.charAt(random.nextInt(signs.length())));
        }
        return word.toString();
    }

    private int left;

    private String treeText(int depth) {
        left--;
        StringBuilder text = new StringBuilder(random.nextInt(30) == 0 ? word("ab", 6) : word("abc", 1));
        if (random.nextInt(4) == 0) {
            text.append('=').append(random.nextInt(20) == 0 ? word("a1", 8) : word("01", 1));
        }
        int kind = random.nextInt(5);
        if (kind == 4) {
            return text.append(random.nextInt(3) == 0 ? "!" : "").toString();
        }
        kind = kind == 3 ? 0 : kind;
        StringBuilder inside = new StringBuilder();
        int children = random.nextInt(5);
        for (int c = 0; c < children && left > 0 && depth < 12; c++) {
            inside.append(c == 0 ? "" : ",").append(treeText(depth + 1));
        }
        if (kind == 0 && inside.length() == 0) {
            return text.toString();
        }
        return text.append("({<".charAt(kind)).append(inside).append(")}>".charAt(kind)).toString();
    }

    private void readTree() {
        int p = place();
        left = 1 + random.nextInt(mostNodes + (mostNodes == 30 ? 2 : 0));
        StringBuilder text = new StringBuilder(treeText(0));
        if (random.nextInt(6) == 0) {
            int at = random.nextInt(text.length());
            String signs = "ab1=!(){}<>,A \u00e9\0";
            char sign = signs.charAt(random.nextInt(signs.length()));
            switch (random.nextInt(3)) {
                case 0: text.setCharAt(at, sign); break;
                case 1: text.insert(at, sign); break;
                default: text.setLength(at);
            }
        }
        feed(text.toString());
        due("read " + text, mender.read(p), model.read(p));
    }

    private void copyTree() {
        int p = place();
        int q = place();
        due("copy", mender.copy(p, q), model.copy(p, q));
    }

    private int anyName(int p) {
        if (p < 0 || p > 7 || model.places[p] == null || random.nextInt(25) == 0) {
            return random.nextInt(60) - 2;
        }
        List<PlainModel.Node> nodes = PlainModel.ahead(model.places[p]);
        return nodes.get(random.nextInt(nodes.size())).name;
    }

    private void feedWord() {
        int choice = random.nextInt(12);
        if (choice == 0) {
            feed(word("aA1 =", 9));
        } else if (choice == 1) {
            feed(word("abc1", 9));
        } else if (choice > 2) {
            feed(word("abcd", random.nextInt(4) == 0 ? 7 : 1));
        }
    }

    private void changeTree(int choice) {
        int p = place();
        int name = anyName(p);
        int other = anyName(p);
        int from = random.nextInt(5) - (random.nextInt(6) == 0 ? 1 : 0);
        if (choice < 3) {
            feedWord();
        }
        switch (choice) {
            case 0:
                due("relabel", mender.relabel(p, name), model.relabel(p, name));
                break;
            case 1:
                due("retext", mender.retext(p, name), model.retext(p, name));
                break;
            case 2:
                int kind = random.nextInt(4);
                int n = random.nextInt(4) - (random.nextInt(9) == 0 ? 1 : 0);
                due("put", mender.put(p, name, kind, from, n), model.put(p, name, kind, from, n));
                break;
            case 3:
            case 4:
                due("take", mender.take(p, name), model.take(p, name));
                break;
            case 5:
            case 6:
                due("move", mender.move(p, name, other, from), model.move(p, name, other, from));
                break;
            default:
                if (random.nextInt(6) == 0) {
                    due("clear", mender.clear(p), model.clear(p));
                }
        }
    }

    private void compare(int p, int q) {
        due("same", mender.same(p, q), model.same(p, q));
        due("unlike", mender.unlike(p), model.unlike(p));
        due("shared", mender.shared(p, q), model.shared(p, q));
        due("distance", mender.distance(p, q), model.distance(p, q));
        boolean small = isSmall(p) && isSmall(q);
        if (!small) {
            return;
        }
        due("map", mender.map(p, q), model.map(p, q));
        due("like", mender.like(), model.like());
        due("acts", mender.acts(), model.acts());
        for (int i = -1; i <= model.acts(); i++) {
            int what = random.nextInt(3);
            due("act " + i, mender.act(i, what), model.act(i, what));
        }
        for (int i = 0; i < 6; i++) {
            int k = random.nextInt(12);
            due("pair " + k, mender.pair(k, i % 2), model.pair(k, i % 2));
        }
    }

    /** Settling step by step asks for the least cost anew each time: too slow for many big trees. */
    private boolean isSmall(int p) {
        boolean there = p >= 0 && p < 8 && model.places[p] != null;
        return !there || PlainModel.ahead(model.places[p]).size() <= 14 || random.nextInt(40) == 0;
    }

    private void mergeTrees() {
        int o = place();
        if (random.nextInt(4) > 0 && o >= 0 && o < 4) {
            int l = (o + 1) % 4;
            int r = (o + 2) % 4;
            due("copy", mender.copy(o, l), model.copy(o, l));
            for (int k = random.nextInt(4); k > 0; k--) {
                changeAt(l);
            }
            boolean fromLeft = random.nextInt(3) == 0;
            due("copy", mender.copy(fromLeft ? l : o, r), model.copy(fromLeft ? l : o, r));
            for (int k = random.nextInt(4); k > 0; k--) {
                changeAt(random.nextInt(3) == 0 ? l : r);
            }
            mergeAs(o, l, r);
        } else {
            mergeAs(o, place(), place());
        }
    }

    private void changeAt(int p) {
        int name = anyName(p);
        int other = anyName(p);
        int from = random.nextInt(3);
        switch (random.nextInt(5)) {
            case 0:
                feed(word("abcdxy", 1));
                due("relabel", mender.relabel(p, name), model.relabel(p, name));
                break;
            case 1:
                feed(word("01", 1));
                due("retext", mender.retext(p, name), model.retext(p, name));
                break;
            case 2:
                feed(word("abcdxy", 1));
                due("put", mender.put(p, name, from, 0, from), model.put(p, name, from, 0, from));
                break;
            case 3:
                due("take", mender.take(p, name), model.take(p, name));
                break;
            default:
                due("move", mender.move(p, name, other, from), model.move(p, name, other, from));
        }
    }

    private void mergeAs(int o, int l, int r) {
        int to = place();
        int clashes = model.merge(o, l, r, to);
        due("merge", mender.merge(o, l, r, to), clashes);
        due("merged", mender.merged(), model.merged());
        for (int i = -1; i <= clashes && i < 8; i++) {
            due("clash name", mender.clash(i, 0), model.clash(i, 0));
            due("clash what", mender.clash(i, 1), model.clash(i, 1));
        }
        look(to);
    }

    private void look(int p) {
        int length = model.write(p);
        due("write", mender.write(p), length);
        int i = random.nextInt(Math.max(1, length) + 1);
        due("letter", mender.letter(i), model.letter(i));
        String inside = Bench.written(mender, p);
        if (length >= 0) {
            Bench.due("run " + run + ": tree", inside, PlainModel.text(model.places[p]));
            for (int k = 0; k < 4; k++) {
                int row = random.nextInt(PlainModel.ahead(model.places[p]).size() + 1);
                int what = random.nextInt(10);
                due("node " + row + " " + what, mender.node(p, row, what), model.node(p, row, what));
            }
        } else {
            model.write(p);
        }
        due("size", mender.size(p), model.size(p));
    }

    private int wild() {
        int[] edges = {Integer.MIN_VALUE, Integer.MIN_VALUE + 1, -1000000, -9, -8, -2, -1, 0, 1, 2, 3, 7, 8, 9, 29, 30, 31,
            399, 400, 1000, 1001, Integer.MAX_VALUE - 1, Integer.MAX_VALUE};
        return edges[random.nextInt(edges.length)];
    }

    private void wildCall() {
        int a = wild();
        int b = wild();
        int c = wild();
        int d = wild();
        int e = wild();
        String with = " with " + a + " " + b + " " + c + " " + d + " " + e;
        switch (random.nextInt(26)) {
            case 0: due("feed" + with, mender.feed(a, b), model.feed(a, b)); break;
            case 1: due("read" + with, mender.read(a), model.read(a)); break;
            case 2: due("write" + with, mender.write(a), model.write(a)); break;
            case 3: due("letter" + with, mender.letter(a), model.letter(a)); break;
            case 4: due("copy" + with, mender.copy(a, b), model.copy(a, b)); break;
            case 5: due("clear" + with, mender.clear(a), model.clear(a)); break;
            case 6: due("node" + with, mender.node(a, b, c), model.node(a, b, c)); break;
            case 7: due("size" + with, mender.size(a), model.size(a)); break;
            case 8: due("relabel" + with, mender.relabel(a, b), model.relabel(a, b)); break;
            case 9: due("retext" + with, mender.retext(a, b), model.retext(a, b)); break;
            case 10: due("put" + with, mender.put(a, b, c, d, e), model.put(a, b, c, d, e)); break;
            case 11: due("take" + with, mender.take(a, b), model.take(a, b)); break;
            case 12: due("move" + with, mender.move(a, b, c, d), model.move(a, b, c, d)); break;
            case 13: due("price" + with, mender.price(a, b), model.price(a, b)); break;
            case 14: due("distance" + with, mender.distance(a, b), model.distance(a, b)); break;
            case 15: due("pair" + with, mender.pair(a, b), model.pair(a, b)); break;
            case 16: due("act" + with, mender.act(a, b), model.act(a, b)); break;
            case 17: due("same" + with, mender.same(a, b), model.same(a, b)); break;
            case 18: due("unlike" + with, mender.unlike(a), model.unlike(a)); break;
            case 19: due("shared" + with, mender.shared(a, b), model.shared(a, b)); break;
            case 20: due("merge" + with, mender.merge(a, b, c, d), model.merge(a, b, c, d)); break;
            case 21: due("clash" + with, mender.clash(a, b), model.clash(a, b)); break;
            case 22: due("found" + with, mender.found(a), model.found(a)); break;
            case 23: due("acts", mender.acts(), model.acts()); break;
            case 24: due("like", mender.like(), model.like()); break;
            default: due("merged", mender.merged(), model.merged());
        }
    }
}
