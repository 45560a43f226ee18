/** The edges of trees, of the tape, and of the calls that lay, write, copy and tell trees (term 1, promises 1, 2, 4 to 9). */
public final class TreeEdgesTest {
    private TreeEdgesTest() {
    }

    public static void main(String[] args) {
        all512Calls();
        eightPlaces();
        oneToThirtyNodes();
        labelsAndTexts();
        wholesHaveNoChildren();
        keyedLabelsAreUnlike();
        aheadAndBehindFromZero();
        namesThatNoNodeEverHad();
        newObject();
        feedTakesOneToEight();
        feedTakesTheLowestBytes();
        feedFull();
        write();
        letter();
        copyWithAllNames();
        copyBeyond();
        clear();
        nodeTells();
        nodeBeyond();
        size();
        Bench.end("edges of trees");
    }

    private static void all512Calls() {
        Bench.sentence("An object is used for at most 512 calls after it has been made");
        BranchMender refused = new BranchMender();
        for (int call = 1; call < 512; call++) {
            refused.found(0);
        }
        Bench.due("the 512th call", refused.found(-1), 511);
        BranchMender names = new BranchMender();
        for (int call = 1; call + 2 < 512; call += 2) {
            names.feed('a', 1);
            names.read(0);
        }
        Bench.due("the 511th", names.size(0), 1);
        Bench.due("the 512th, a name", names.node(0, 0, 0), 254);
        BranchMender most = new BranchMender();
        for (int tree = 0; tree < 56; tree++) {
            Bench.due("nine calls for 30 nodes", Bench.read(most, tree % 8, Bench.flat(30)), 30);
        }
        Bench.due("the 505th, the greatest name", most.node(7, 29, 0), 56 * 30 - 1);
        Bench.due("the 506th, by that name", most.take(7, 56 * 30 - 1), 0);
        for (int act = 0; act < 3; act++) {
            Bench.due("507th to 512th, one more", Bench.putAt(most, 7, "n", 55 * 30, 0, 0, 1 + act) < 0, act > 0);
        }
    }

    private static void eightPlaces() {
        Bench.sentence("A TREE (at places 0 .. 7; none at first)");
        BranchMender mender = new BranchMender();
        for (int p = 0; p < 8; p++) {
            Bench.due("none at first at " + p, mender.size(p), Bench.NOTHING);
        }
        for (int p = 0; p < 8; p++) {
            Bench.due("read at " + p, Bench.read(mender, p, Bench.flat(p + 2)), p + 2);
        }
        for (int p = 0; p < 8; p++) {
            Bench.due("all eight full, " + p, Bench.written(mender, p), Bench.flat(p + 2));
        }
        mender.clear(3);
        for (int p = 0; p < 8; p++) {
            Bench.due("one empty again, " + p, mender.size(p), p == 3 ? Bench.NOTHING : p + 2);
        }
    }

    private static void oneToThirtyNodes() {
        Bench.sentence("has 1 to 30 NODES: one ROOT");
        BranchMender mender = Bench.with("a", Bench.flat(30));
        Bench.due("one", mender.size(0), 1);
        Bench.due("it is the root", mender.node(0, 0, 4), -8);
        Bench.due("and can't go", mender.take(0, 0), Bench.ROOT);
        Bench.due("still one", mender.size(0), 1);
        Bench.due("thirty", mender.size(1), 30);
        Bench.due("no 31st by put()", Bench.putAt(mender, 1, "n", 1, 0, 0, 0), Bench.FULL);
        Bench.due("no 31st by read()", Bench.read(mender, 1, Bench.flat(31)), -70);
        Bench.due("still thirty", mender.size(1), 30);
    }

    private static void labelsAndTexts() {
        Bench.sentence("a LABEL (one to six letters a .. z)");
        BranchMender mender = Bench.with("a", "abcdef", "zzzzzz");
        Bench.due("one letter", mender.node(0, 0, 7), 1);
        Bench.due("six letters", mender.node(1, 0, 7), 6);
        Bench.due("six of the last", Bench.written(mender, 2), "zzzzzz");
        Bench.sentence("a TEXT (none to eight letters and figures)");
        BranchMender texts = Bench.with("a", "a=0", "a=9", "a=z", "a=12345678", "a=a0z9a0z9");
        int[] lengths = {0, 1, 1, 1, 8, 8};
        for (int p = 0; p < lengths.length; p++) {
            Bench.due("text of " + p, texts.node(p, 0, 8), lengths[p]);
        }
        Bench.due("eight signs", Bench.written(texts, 5), "a=a0z9a0z9");
    }

    private static void wholesHaveNoChildren() {
        Bench.sentence("A WHOLE has no children");
        BranchMender mender = Bench.with("r(w!,a)", "w!");
        Bench.due("none", mender.node(0, 1, 2) + mender.node(1, 0, 2), 0);
        Bench.due("none by read()", Bench.read(mender, 2, "w!(a)"), -12);
        Bench.due("none by put()", Bench.put(mender, "n", 1, 0, 0, 0), Bench.KIND);
        Bench.due("none by put() to a root", Bench.putAt(mender, 1, "n", 3, 0, 0, 0), Bench.KIND);
        Bench.due("none by move()", mender.move(0, 2, 1, 0), Bench.KIND);
        Bench.due("it may be a child", Bench.put(mender, "n", 0, 0, 0, 1), 4);
        Bench.due("as told", Bench.written(mender, 0), "r(n(w!),a)");
    }

    private static void keyedLabelsAreUnlike() {
        Bench.sentence("those of a KEYED have unlike labels");
        BranchMender mender = Bench.with("r<a,b(a),c(d,d)>");
        Bench.due("by read()", Bench.read(mender, 1, "r<a,b,a>"), -16);
        Bench.due("by relabel()", Bench.relabel(mender, 0, 1, "b"), Bench.KEY);
        Bench.due("by put()", Bench.put(mender, "a", 0, 0, 0, 0), Bench.KEY);
        Bench.due("by take()", mender.take(0, 2), Bench.KEY);
        Bench.due("by take(), two of one", mender.take(0, 4), Bench.KEY);
        Bench.due("by move()", mender.move(0, 3, 0, 0), Bench.KEY);
        Bench.due("none of these", Bench.written(mender, 0), "r<a,b(a),c(d,d)>");
        BranchMender full = Bench.with("r<a,b,d,e,f,g,h,i,j,k,l,m,n,o,p,q,r,s,t,u,v,w,x,y,z,aa,ab,ac,ad>");
        Bench.due("the last of 29", Bench.relabel(full, 0, 29, "a"), Bench.KEY);
        Bench.due("the first of 29", Bench.relabel(full, 0, 1, "ad"), Bench.KEY);
        Bench.due("unlike all 28 others", Bench.relabel(full, 0, 29, "c"), 1);
        Bench.due("one that became free", Bench.relabel(full, 0, 1, "ad"), 2);
        BranchMender last = Bench.with("r(" + "c,".repeat(27) + "k<a>)");
        Bench.due("a KEYED at the end of 30", Bench.relabel(last, 0, 29, "b"), 1);
    }

    private static void aheadAndBehindFromZero() {
        Bench.sentence("Nodes are counted from 0 on AHEAD");
        BranchMender mender = Bench.with("a", "a(b(c,d),e)", Bench.chain(12), Bench.flat(30));
        Bench.due("AHEAD", Bench.names(mender, 1), "1 2 3 4 5");
        Bench.due("the first", mender.node(1, 0, 0), 1);
        Bench.due("the last", mender.node(1, 4, 0), 5);
        Bench.sentence("BEHIND: each behind its children.");
        int[] behind = {4, 2, 0, 1, 3};
        for (int i = 0; i < 5; i++) {
            Bench.due("BEHIND of " + i, mender.node(1, i, 6), behind[i]);
        }
        Bench.due("the only one", mender.node(0, 0, 6), 0);
        for (int i = 0; i < 12; i++) {
            Bench.due("BEHIND in a chain, " + i, mender.node(2, i, 6), 11 - i);
        }
        Bench.due("BEHIND of the widest root", mender.node(3, 0, 6), 29);
        Bench.due("BEHIND of its first", mender.node(3, 1, 6), 0);
        Bench.due("BEHIND of its last", mender.node(3, 29, 6), 28);
    }

    private static void namesThatNoNodeEverHad() {
        Bench.sentence("get names 0, 1, 2, .. (the next one that no node ever had), by read() in the order AHEAD");
        BranchMender mender = Bench.with("a(b(c),d)");
        Bench.due("from 0, AHEAD", Bench.names(mender, 0), "0 1 2 3");
        mender.take(0, 3);
        Bench.due("a taken one's isn't had again", Bench.put(mender, "n", 0, 0, 0, 0), 4);
        mender.clear(0);
        Bench.due("nor a cleared tree's", Bench.read(mender, 0, "a") + mender.node(0, 0, 0), 1 + 5);
        Bench.due("nor an overwritten tree's", Bench.read(mender, 0, "a") + mender.node(0, 0, 0), 1 + 6);
        mender.copy(0, 1);
        mender.merge(0, 0, 1, 2);
        Bench.due("copy() and merge() use none", Bench.names(mender, 1) + Bench.names(mender, 2), "66");
        Bench.read(mender, 3, "a(b");
        Bench.read(mender, 8, "a");
        mender.read(3);
        Bench.due("a refused read() uses none, the next one does", mender.node(3, 0, 0), 7);
        Bench.putAt(mender, 3, "n", 7, 3, 0, 0);
        Bench.putAt(mender, 3, "n", 7, 0, 1, 0);
        Bench.due("a refused put() uses none", Bench.putAt(mender, 3, "n", 7, 0, 0, 0), 8);
    }

    private static void newObject() {
        Bench.sentence("No trees, an empty tape, prices as told.");
        BranchMender mender = new BranchMender();
        for (int p = 0; p < 8; p++) {
            Bench.due("no tree at " + p, mender.clear(p), 0);
        }
        int[] told = {2, 1, 3, 3};
        for (int act = 0; act < 4; act++) {
            Bench.due("price of " + act, mender.price(act, 9), told[act]);
        }
        Bench.due("an empty tape", mender.read(0), -10);
        Bench.due("nothing written", mender.letter(0), -1);
        Bench.due("no pairs", mender.pair(0, 0), Bench.NONE);
        Bench.due("no acts", mender.acts(), 0);
        Bench.due("no clashes", mender.clash(0, 0), Bench.NONE);
        Bench.due("nothing merged", mender.merged(), 0);
        Bench.due("the tape's length", new BranchMender().feed(0, 8), 8);
    }

    private static void feedTakesOneToEight() {
        Bench.sentence("BEYOND: n isn't 1 .. 8.");
        BranchMender mender = new BranchMender();
        int[] beyond = {0, -1, 9, 16, 256 + 1, Bench.MIN, Bench.MIN + 1, Bench.MAX};
        for (int n : beyond) {
            Bench.due("n of " + n, mender.feed('a', n), Bench.BEYOND);
        }
        int length = 0;
        for (int n = 1; n <= 8; n++) {
            length += n;
            Bench.due("n of " + n, mender.feed(0x6161616161616161L, n), length);
        }
    }

    private static void feedTakesTheLowestBytes() {
        Bench.sentence("The n lowest bytes of w, the lowest first, come to the tape: how many it has.");
        long word = 0x6867666564636261L;
        String letters = "abcdefgh";
        for (int n = 1; n <= 8; n++) {
            BranchMender mender = Bench.with("a");
            Bench.due("feed", mender.feed(word, n), n);
            Bench.due("as a text", mender.retext(0, 0), n);
            Bench.due("lowest first", Bench.written(mender, 0), "a=" + letters.substring(0, n));
        }
        BranchMender high = Bench.with("a");
        high.feed(0x80000000000000ffL, 8);
        Bench.due("a byte of 255 is no sign", high.retext(0, 0), Bench.KIND);
        high.feed(Long.MIN_VALUE | 'b', 1);
        Bench.due("higher bytes don't come", high.relabel(0, 0), 1);
        high.feed(-1L << 8 | 'c', 1);
        Bench.due("however many", high.relabel(0, 0), 1);
        Bench.due("the label", Bench.written(high, 0), "c");
    }

    private static void feedFull() {
        Bench.sentence("FULL: there would be more than 400.");
        for (int n = 1; n <= 8; n++) {
            BranchMender mender = tapeOf(400);
            Bench.due("400 and " + n, mender.feed(0, n), Bench.FULL);
            BranchMender nearly = tapeOf(401 - n);
            Bench.due("one too many, by " + n, nearly.feed(0, n), Bench.FULL);
            Bench.due("nothing of it came", nearly.feed(0, 1), n == 1 ? Bench.FULL : 402 - n);
            BranchMender fits = tapeOf(400 - n);
            Bench.due("400 by " + n, fits.feed(0, n), 400);
        }
        BranchMender full = tapeOf(400);
        Bench.due("n is looked at first", full.feed(0, 9), Bench.BEYOND);
        full.feed(0, 1);
        Bench.due("all 400 are read", full.read(0), -16);
        Bench.due("empty then", full.feed(0, 8), 8);
    }

    private static BranchMender tapeOf(int length) {
        BranchMender mender = new BranchMender();
        Bench.feed(mender, "a".repeat(length));
        return mender;
    }

    private static void write() {
        Bench.sentence("Tree p is written: how many bytes.");
        BranchMender mender = Bench.with("a", "abcdef=12345678!");
        Bench.due("the shortest", mender.write(0), 1);
        Bench.due("the longest of one node", mender.write(1), 16);
        Bench.due("no tree", mender.write(2), Bench.NOTHING);
        Bench.due("below", mender.write(-1), Bench.BEYOND);
        Bench.due("above", mender.write(8), Bench.BEYOND);
    }

    private static void letter() {
        Bench.sentence("Byte i of what was written last; -1 without it (no finding).");
        BranchMender mender = Bench.with("ab=1(c)", "d");
        Bench.due("nothing was written", mender.letter(0), -1);
        mender.write(0);
        String due = "ab=1(c)";
        for (int i = 0; i < due.length(); i++) {
            Bench.due("byte " + i, mender.letter(i), (int) due.charAt(i));
        }
        int[] without = {-1, due.length(), due.length() + 1, Bench.MIN, Bench.MAX};
        for (int i : without) {
            Bench.due("byte " + i, mender.letter(i), -1);
        }
        mender.write(1);
        Bench.due("the last one's", mender.letter(0), (int) 'd');
        Bench.due("no more of the longer one", mender.letter(1), -1);
        mender.clear(1);
        Bench.due("it stays without the tree", mender.letter(0), (int) 'd');
        Bench.due("no findings", mender.found(-1), 0);
        mender.write(1);
        mender.write(8);
        Bench.due("a refused write() keeps it", mender.letter(0), (int) 'd');
    }

    private static void copyWithAllNames() {
        Bench.sentence("Tree p, with all names, is at q, too: how many nodes.");
        BranchMender mender = Bench.with("a=1(b{},c<>,d!)", Bench.flat(30));
        Bench.due("to an empty place", mender.copy(0, 7), 4);
        Bench.due("all of it", Bench.written(mender, 7) + Bench.names(mender, 7), "a=1(b{},c<>,d!)0 1 2 3");
        Bench.due("the biggest over a small one", mender.copy(1, 0), 30);
        Bench.due("a small one over the biggest", mender.copy(7, 1), 4);
        Bench.due("nothing of the biggest is left", Bench.written(mender, 1) + mender.size(1), "a=1(b{},c<>,d!)4");
        Bench.due("on itself", mender.copy(7, 7), 4);
        Bench.due("it is as it was", Bench.written(mender, 7) + Bench.names(mender, 7), "a=1(b{},c<>,d!)0 1 2 3");
        Bench.relabel(mender, 1, 0, "z");
        mender.take(1, 1);
        Bench.due("the copy doesn't change with it", Bench.written(mender, 7), "a=1(b{},c<>,d!)");
        Bench.due("one node", Bench.read(mender, 2, "a") + mender.copy(2, 3), 2);
    }

    private static void copyBeyond() {
        Bench.sentence("BEYOND: q isn't 0 .. 7.");
        BranchMender mender = Bench.with("a");
        int[] beyond = {-1, 8, Bench.MIN, Bench.MAX};
        for (int q : beyond) {
            Bench.due("to " + q, mender.copy(0, q), Bench.BEYOND);
            Bench.due("from " + q, mender.copy(q, 0), Bench.BEYOND);
        }
        for (int q = 0; q < 8; q++) {
            Bench.due("to " + q, mender.copy(0, q), 1);
        }
    }

    private static void clear() {
        Bench.sentence("No tree is at p: 1 if there was one, else 0. BEYOND.");
        BranchMender mender = Bench.with("a");
        mender.copy(0, 7);
        Bench.due("there was one", mender.clear(7), 1);
        Bench.due("then none", mender.clear(7), 0);
        Bench.due("none", mender.size(7), Bench.NOTHING);
        Bench.due("the other one stays", mender.size(0), 1);
        int[] beyond = {-1, 8, Bench.MIN, Bench.MAX};
        for (int p : beyond) {
            Bench.due("clear " + p, mender.clear(p), Bench.BEYOND);
        }
        Bench.due("an empty place is no finding", mender.found(-2), 1);
        Bench.due("the first place", mender.clear(0), 1);
    }

    private static void nodeTells() {
        Bench.sentence("4 its parent's name (-8 of the root: no finding)");
        BranchMender mender = Bench.with("z", "abcdef=12345678(b)", Bench.chain(12), Bench.flat(30));
        Bench.due("the root", mender.node(1, 0, 4), -8);
        Bench.due("its child", mender.node(1, 1, 4), 1);
        Bench.due("the last child of many", mender.node(3, 29, 4), 15);
        Bench.due("the deepest", mender.node(2, 11, 4), 13);
        for (int finding = -9; finding < 0; finding++) {
            Bench.due("no finding " + finding, finding == -8 ? 0 : mender.found(finding), 0);
        }
        Bench.sentence("2 how many children, 3 how deep under the root, 5 nodes of its branch (itself, too)");
        Bench.due("no children", mender.node(0, 0, 2), 0);
        Bench.due("29 children", mender.node(3, 0, 2), 29);
        Bench.due("the root's depth", mender.node(2, 0, 3), 0);
        Bench.due("the deepest", mender.node(2, 11, 3), 11);
        Bench.due("a leaf's branch", mender.node(3, 29, 5), 1);
        Bench.due("the biggest branch", mender.node(3, 0, 5), 30);
        Bench.sentence("7 length of its label, 8 of its text");
        Bench.due("longest label", mender.node(1, 0, 7), 6);
        Bench.due("longest text", mender.node(1, 0, 8), 8);
        Bench.due("shortest label", mender.node(1, 1, 7), 1);
        Bench.due("no text", mender.node(1, 1, 8), 0);
        BranchMender behind = Bench.with("a(b(c,d),e(f),g)");
        int[] parents = {-8, 0, 1, 1, 0, 4, 0};
        for (int i = 0; i < parents.length; i++) {
            Bench.due("parent of " + i, behind.node(0, i, 4), parents[i]);
        }
        Bench.sentence("0 its name, 1 its kind");
        BranchMender kinds = Bench.with("a(b{},c<>,d!)");
        for (int i = 0; i < 4; i++) {
            Bench.due("name of " + i, kinds.node(0, i, 0), i);
            Bench.due("kind of " + i, kinds.node(0, i, 1), i);
        }
    }

    private static void nodeBeyond() {
        Bench.sentence("BEYOND: there is no such node, or another what.");
        BranchMender mender = Bench.with("a(b)", Bench.flat(30));
        int[] noNodes = {-1, 2, 29, 30, Bench.MIN, Bench.MAX};
        for (int i : noNodes) {
            Bench.due("node " + i, mender.node(0, i, 0), Bench.BEYOND);
        }
        Bench.due("the 30th", mender.node(1, 29, 0), 31);
        Bench.due("the 31st", mender.node(1, 30, 0), Bench.BEYOND);
        int[] others = {-1, 9, Bench.MIN, Bench.MAX};
        for (int what : others) {
            Bench.due("what " + what, mender.node(0, 1, what), Bench.BEYOND);
        }
        mender.take(0, 1);
        Bench.due("one that was there before", mender.node(0, 1, 0), Bench.BEYOND);
    }

    private static void size() {
        Bench.sentence("How many nodes tree p has.");
        BranchMender mender = Bench.with("a", Bench.flat(30));
        Bench.due("least", mender.size(0), 1);
        Bench.due("most", mender.size(1), 30);
        Bench.put(mender, "n", 0, 0, 0, 0);
        Bench.due("one more", mender.size(0), 2);
        mender.take(1, 2);
        Bench.due("one less", mender.size(1), 29);
        Bench.due("none", mender.size(2), Bench.NOTHING);
        Bench.due("below", mender.size(-1), Bench.BEYOND);
        Bench.due("above", mender.size(8), Bench.BEYOND);
    }
}
