/** The edges of the acts relabel, retext, put, take and move (promises 10 to 14), each sentence by itself. */
public final class ActEdgesTest {
    private ActEdgesTest() {
    }

    public static void main(String[] args) {
        nodeOfP();
        relabelLength();
        relabelKind();
        relabelKey();
        relabelTape();
        retextLength();
        retextKind();
        retextTape();
        putAnswersItsName();
        putKind();
        putBeyond();
        putFullNodes();
        putFullDepth();
        putKey();
        putTape();
        takeAnswersHowMany();
        takeRoot();
        takeKey();
        moveAnswersHowMany();
        moveRoot();
        moveNone();
        moveWhole();
        moveUnderItself();
        moveBeyond();
        moveFull();
        moveKey();
        tapeOfOtherActs();
        Bench.end("edges of acts");
    }

    private static void nodeOfP() {
        Bench.sentence("\"Node of p\": NONE if tree p has no node of that name.");
        BranchMender mender = Bench.with("a(b,c)", "d");
        mender.take(0, 1);
        // Never had, of another tree, gone, and far off.
        int[] names = {-1, 3, 1, 4, Bench.MIN, Bench.MAX, -8};
        for (int name : names) {
            Bench.due("relabel of " + name, mender.relabel(0, name), Bench.NONE);
            Bench.due("retext of " + name, mender.retext(0, name), Bench.NONE);
            Bench.due("put under " + name, mender.put(0, name, 0, 0, 0), Bench.NONE);
            Bench.due("take of " + name, mender.take(0, name), Bench.NONE);
            Bench.due("move of " + name, mender.move(0, name, 0, 0), Bench.NONE);
            Bench.due("move to " + name, mender.move(0, 2, name, 0), Bench.NONE);
        }
        Bench.due("by name, not by number", mender.take(0, 2), 0);
        Bench.due("a copy's nodes have the names, too", mender.copy(1, 2) + Bench.retext(mender, 2, 3, "1"), 2);
    }

    private static void relabelLength() {
        Bench.sentence("The tape (empty then) is the label of a node: its length.");
        BranchMender mender = Bench.with("a(b=1{c})");
        Bench.due("one letter", Bench.relabel(mender, 0, 0, "z"), 1);
        Bench.due("six letters", Bench.relabel(mender, 0, 1, "abcdef"), 6);
        Bench.due("nothing else changes", Bench.written(mender, 0) + Bench.names(mender, 0), "z(abcdef=1{c})0 1 2");
        Bench.due("shorter again", Bench.relabel(mender, 0, 1, "q"), 1);
        Bench.due("nothing of the longer one is left", Bench.written(mender, 0), "z(q=1{c})");
    }

    private static void relabelKind() {
        Bench.sentence("KIND: the tape is no label.");
        BranchMender mender = Bench.with("a");
        Bench.due("an empty tape", mender.relabel(0, 0), Bench.KIND);
        Bench.due("seven letters", Bench.relabel(mender, 0, 0, "abcdefg"), Bench.KIND);
        Bench.due("eight letters", Bench.relabel(mender, 0, 0, "abcdefgh"), Bench.KIND);
        Bench.due("a full tape", Bench.relabel(mender, 0, 0, "a".repeat(400)), Bench.KIND);
        Bench.due("nothing changed", Bench.written(mender, 0), "a");
        for (char sign = 0; sign < 256; sign++) {
            BranchMender one = Bench.with("a");
            boolean letter = sign >= 'a' && sign <= 'z';
            Bench.due("byte " + (int) sign, Bench.relabel(one, 0, 0, "" + sign), letter ? 1 : Bench.KIND);
            Bench.due("behind a letter, " + (int) sign, Bench.relabel(one, 0, 0, "b" + sign), letter ? 2 : Bench.KIND);
            Bench.due("ahead of a letter, " + (int) sign, Bench.relabel(one, 0, 0, sign + "b"), letter ? 2 : Bench.KIND);
            Bench.due("as the sixth, " + (int) sign, Bench.relabel(one, 0, 0, "bcdef" + sign), letter ? 6 : Bench.KIND);
        }
    }

    private static void relabelKey() {
        Bench.sentence("KEY: its parent is KEYED, and another child has it.");
        BranchMender keyed = Bench.with("r<a,b(c),d!>");
        Bench.due("the first one's label", Bench.relabel(keyed, 0, 4, "a"), Bench.KEY);
        Bench.due("the last one's label", Bench.relabel(keyed, 0, 1, "d"), Bench.KEY);
        Bench.due("the middle one's label", Bench.relabel(keyed, 0, 1, "b"), Bench.KEY);
        Bench.due("nothing changed", Bench.written(keyed, 0), "r<a,b(c),d!>");
        Bench.due("its own label", Bench.relabel(keyed, 0, 1, "a"), 1);
        Bench.due("a grandchild's label", Bench.relabel(keyed, 0, 1, "c"), 1);
        Bench.due("the parent's label", Bench.relabel(keyed, 0, 2, "r"), 1);
        Bench.due("a longer one", Bench.relabel(keyed, 0, 4, "rr"), 2);
        Bench.due("a grandchild as a child", Bench.relabel(keyed, 0, 3, "rr"), 2);
        Bench.due("the KEYED itself as its child", Bench.relabel(keyed, 0, 0, "c"), 1);
        Bench.due("as told", Bench.written(keyed, 0), "c<c,r(rr),rr!>");
        BranchMender others = Bench.with("r(a,b{c,d})");
        Bench.due("children of a BRANCH", Bench.relabel(others, 0, 1, "b"), 1);
        Bench.due("children of a BAG", Bench.relabel(others, 0, 3, "d"), 1);
        Bench.due("the root has no parent", Bench.relabel(others, 0, 0, "b"), 1);
    }

    private static void relabelTape() {
        Bench.sentence("(With a finding behind Node of p, too, the tape is empty then.)");
        BranchMender mender = Bench.with("r<a,b>");
        Bench.relabel(mender, 0, 1, "A");
        Bench.due("empty behind KIND", mender.feed('b', 1), 1);
        mender.relabel(0, 1);
        Bench.due("empty behind KEY", mender.feed('c', 1), 1);
        Bench.due("empty behind a label", mender.relabel(0, 1) + mender.feed('d', 1), 2);
        mender.relabel(8, 1);
        Bench.due("it stays behind BEYOND", mender.feed('e', 1), 2);
        mender.relabel(1, 1);
        Bench.due("it stays behind NOTHING", mender.feed('f', 1), 3);
        mender.relabel(0, 9);
        Bench.due("it stays behind NONE", mender.feed('g', 1), 4);
        Bench.due("all of it is the label", mender.relabel(0, 1), 4);
        Bench.due("as told", Bench.written(mender, 0), "r<defg,b>");
    }

    private static void retextLength() {
        Bench.sentence("The tape (empty then) is the text of a node: its length.");
        BranchMender mender = Bench.with("a(b=1{c},d!)");
        Bench.due("none", mender.retext(0, 1), 0);
        Bench.due("none where there was none", mender.retext(0, 2), 0);
        Bench.due("one sign", Bench.retext(mender, 0, 0, "0"), 1);
        Bench.due("eight signs", Bench.retext(mender, 0, 2, "a0z9b1y8"), 8);
        Bench.due("of a WHOLE", Bench.retext(mender, 0, 3, "7"), 1);
        Bench.due("as told", Bench.written(mender, 0), "a=0(b{c=a0z9b1y8},d=7!)");
        Bench.due("shorter again", Bench.retext(mender, 0, 2, "5"), 1);
        Bench.due("nothing of the longer one is left", Bench.written(mender, 0), "a=0(b{c=5},d=7!)");
    }

    private static void retextKind() {
        Bench.sentence("KIND: it is no text (none, eight signs at most).");
        BranchMender mender = Bench.with("a=1");
        Bench.due("nine signs", Bench.retext(mender, 0, 0, "123456789"), Bench.KIND);
        Bench.due("a full tape", Bench.retext(mender, 0, 0, "1".repeat(400)), Bench.KIND);
        Bench.due("nothing changed", Bench.written(mender, 0), "a=1");
        for (char sign = 0; sign < 256; sign++) {
            BranchMender one = Bench.with("a");
            boolean fits = sign >= 'a' && sign <= 'z' || sign >= '0' && sign <= '9';
            Bench.due("byte " + (int) sign, Bench.retext(one, 0, 0, "" + sign), fits ? 1 : Bench.KIND);
            Bench.due("behind a sign, " + (int) sign, Bench.retext(one, 0, 0, "2" + sign), fits ? 2 : Bench.KIND);
            Bench.due("ahead of a sign, " + (int) sign, Bench.retext(one, 0, 0, sign + "2"), fits ? 2 : Bench.KIND);
            Bench.due("as the eighth, " + (int) sign, Bench.retext(one, 0, 0, "1234567" + sign), fits ? 8 : Bench.KIND);
        }
    }

    private static void retextTape() {
        Bench.sentence("(As of relabel().)");
        BranchMender mender = Bench.with("r");
        Bench.retext(mender, 0, 0, "?");
        Bench.due("empty behind KIND", mender.feed('1', 1), 1);
        Bench.due("empty behind a text", mender.retext(0, 0) + mender.feed('2', 1), 2);
        mender.retext(-1, 0);
        Bench.due("it stays behind BEYOND", mender.feed('3', 1), 2);
        mender.retext(1, 0);
        Bench.due("it stays behind NOTHING", mender.feed('4', 1), 3);
        mender.retext(0, 1);
        Bench.due("it stays behind NONE", mender.feed('5', 1), 4);
        Bench.due("all of it is the text", mender.retext(0, 0), 4);
        Bench.due("as told", Bench.written(mender, 0), "r=2345");
    }

    private static void putAnswersItsName() {
        Bench.sentence("is put under a node, at its child from, and takes n children from that one on as its own: its name");
        String[] due = {"r(m,a,b)", "r(m(a),b)", "r(m(a,b))", "r(a,m,b)", "r(a,m(b))", "r(a,b,m)"};
        int[][] fromAndN = {{0, 0}, {0, 1}, {0, 2}, {1, 0}, {1, 1}, {2, 0}};
        for (int k = 0; k < due.length; k++) {
            BranchMender mender = Bench.with("r(a,b)");
            Bench.due("its name", Bench.put(mender, "m", 0, 0, fromAndN[k][0], fromAndN[k][1]), 3);
            Bench.due("as told", Bench.written(mender, 0), due[k]);
        }
        BranchMender leaf = Bench.with("r");
        Bench.due("under a leaf", Bench.put(leaf, "abcdef", 0, 1, 0, 0), 1);
        Bench.due("under that", Bench.put(leaf, "k", 1, 2, 0, 0), 2);
        Bench.due("as told", Bench.written(leaf, 0), "r(abcdef{k<>})");
        Bench.sentence("A new BRANCH, BAG or KEYED without a text");
        BranchMender texts = Bench.with("r=1(a=2)");
        Bench.put(texts, "m", 0, 0, 0, 1);
        Bench.due("without a text", Bench.written(texts, 0), "r=1(m(a=2))");
        Bench.due("its text's length", texts.node(0, 1, 8), 0);
    }

    private static void putKind() {
        Bench.sentence("KIND: kind isn't 0 .. 2, the node is a WHOLE, or the tape is no label.");
        BranchMender mender = Bench.with("r(w!,a)");
        int[] kinds = {-1, 3, 4, Bench.MIN, Bench.MAX};
        for (int kind : kinds) {
            Bench.due("kind " + kind, Bench.put(mender, "m", 0, kind, 0, 0), Bench.KIND);
        }
        for (int kind = 0; kind < 3; kind++) {
            Bench.due("under a WHOLE", Bench.put(mender, "m", 1, kind, 0, 0), Bench.KIND);
        }
        Bench.due("an empty tape", mender.put(0, 0, 0, 0, 0), Bench.KIND);
        Bench.due("seven letters", Bench.put(mender, "abcdefg", 0, 0, 0, 0), Bench.KIND);
        Bench.due("a figure", Bench.put(mender, "a1", 0, 0, 0, 0), Bench.KIND);
        Bench.due("a capital", Bench.put(mender, "A", 0, 0, 0, 0), Bench.KIND);
        Bench.due("a full tape", Bench.put(mender, "a".repeat(400), 0, 0, 0, 0), Bench.KIND);
        Bench.due("nothing changed", Bench.written(mender, 0), "r(w!,a)");
        for (int kind = 0; kind < 3; kind++) {
            Bench.due("kind " + kind, Bench.put(mender, "m", 0, kind, 0, 0), 3 + kind);
            Bench.due("is that kind", mender.node(0, 1, 1), kind);
        }
    }

    private static void putBeyond() {
        Bench.sentence("BEYOND: from or n is below 0, or there are not so many children.");
        BranchMender mender = Bench.with("r(a,b)");
        int[][] beyond = {{-1, 0}, {0, -1}, {-1, 1}, {1, -1}, {-1, -1}, {0, 3}, {1, 2}, {2, 1}, {3, 0}, {3, -1}, {-1, 3},
            {Bench.MAX, Bench.MAX}, {1, Bench.MAX}, {Bench.MAX, 1}, {2, Bench.MAX}, {Bench.MAX, 0}, {0, Bench.MAX},
            {Bench.MIN, Bench.MIN}, {Bench.MIN, 0}, {0, Bench.MIN}, {Bench.MIN, Bench.MAX}, {Bench.MAX, Bench.MIN}};
        for (int[] pair : beyond) {
            Bench.due("from " + pair[0] + ", n " + pair[1], Bench.put(mender, "m", 0, 0, pair[0], pair[1]), Bench.BEYOND);
        }
        Bench.due("under a leaf, from 1", Bench.put(mender, "m", 1, 0, 1, 0), Bench.BEYOND);
        Bench.due("under a leaf, n 1", Bench.put(mender, "m", 1, 0, 0, 1), Bench.BEYOND);
        Bench.due("nothing changed", Bench.written(mender, 0), "r(a,b)");
    }

    private static void putFullNodes() {
        Bench.sentence("FULL: there are 30 nodes");
        BranchMender mender = Bench.with(Bench.flat(29), Bench.flat(30));
        Bench.due("29 nodes", Bench.put(mender, "m", 0, 0, 28, 0), 59);
        Bench.due("now 30", mender.size(0), 30);
        Bench.due("30 nodes, at the end", Bench.put(mender, "m", 0, 0, 29, 0), Bench.FULL);
        Bench.due("30 nodes, at the beginning", Bench.put(mender, "m", 0, 1, 0, 0), Bench.FULL);
        Bench.due("30 nodes, over all", Bench.putAt(mender, 1, "m", 29, 2, 0, 29), Bench.FULL);
        Bench.due("still 30", Bench.written(mender, 1), Bench.flat(30));
    }

    private static void putFullDepth() {
        Bench.sentence("or one would be 12 deep under the root");
        BranchMender chain = Bench.with(Bench.chain(12));
        Bench.due("the new one itself", Bench.put(chain, "m", 11, 0, 0, 0), Bench.FULL);
        for (int name = 0; name < 11; name++) {
            Bench.due("those under it, at " + name, Bench.put(chain, "m", name, 0, 0, 1), Bench.FULL);
        }
        Bench.due("nothing changed", Bench.written(chain, 0), Bench.chain(12));
        Bench.due("11 deep, the new one itself", Bench.put(chain, "m", 10, 0, 1, 0), 12);
        Bench.due("its depth", chain.node(0, 12, 3), 11);
        Bench.due("beside the chain", Bench.put(chain, "m", 0, 0, 0, 0), 13);
        BranchMender shorter = Bench.with(Bench.chain(11));
        Bench.due("11 deep, those under it", Bench.put(shorter, "m", 0, 0, 0, 1), 11);
        Bench.due("the deepest now", shorter.node(0, 11, 3), 11);
        BranchMender second = Bench.with("r(b," + Bench.chain(11) + ",c)");
        Bench.due("only the deep one counts", Bench.put(second, "m", 0, 0, 0, 2), Bench.FULL);
        Bench.due("not the others", Bench.put(second, "m", 0, 0, 0, 1), 14);
        Bench.due("nor behind it", Bench.put(second, "m", 0, 0, 2, 1), 15);
    }

    private static void putKey() {
        Bench.sentence("KEY: two children of a KEYED would have one label.");
        BranchMender keyed = Bench.with("r<a,b,c>");
        Bench.due("the new one and one behind it", Bench.put(keyed, "c", 0, 0, 0, 0), Bench.KEY);
        Bench.due("the new one and one ahead of it", Bench.put(keyed, "a", 0, 0, 3, 0), Bench.KEY);
        Bench.due("beside those it takes", Bench.put(keyed, "c", 0, 0, 0, 2), Bench.KEY);
        Bench.due("nothing changed", Bench.written(keyed, 0), "r<a,b,c>");
        Bench.due("one that it takes has the label", Bench.put(keyed, "c", 0, 0, 1, 2), 4);
        Bench.due("as told", Bench.written(keyed, 0), "r<a,c(b,c)>");
        BranchMender branch = Bench.with("r(a,b,a)");
        Bench.due("a KEYED over two alike", Bench.put(branch, "k", 0, 2, 0, 3), Bench.KEY);
        Bench.due("a BRANCH over them", Bench.put(branch, "m", 0, 0, 0, 3), 4);
        Bench.due("a KEYED over unlike ones", Bench.put(branch, "k", 4, 2, 0, 2), 5);
        Bench.due("a BAG over two alike", Bench.put(Bench.with("r(a,a)"), "m", 0, 1, 0, 2), 3);
        Bench.due("a KEYED over one with its own label", Bench.put(Bench.with("r(a,a)"), "a", 0, 2, 0, 1), 3);
        Bench.due("alike under a BRANCH", Bench.put(Bench.with("r(a)"), "a", 0, 0, 0, 0), 2);
        Bench.due("alike under a BAG", Bench.put(Bench.with("r{a}"), "a", 0, 0, 0, 0), 2);
        Bench.due("a grandchild's label under a KEYED", Bench.put(Bench.with("r<b(a)>"), "a", 0, 0, 0, 0), 3);
    }

    private static void putTape() {
        Bench.sentence("labelled by the tape (empty then) .. (As of relabel().)");
        BranchMender mender = Bench.with("r<a,w!>", Bench.flat(30));
        Bench.put(mender, "m", 0, 3, 0, 0);
        Bench.due("empty behind KIND of kind", mender.feed('m', 1), 1);
        mender.put(0, 2, 0, 0, 0);
        Bench.due("empty behind KIND of a WHOLE", mender.feed('M', 1), 1);
        mender.put(0, 0, 0, 0, 0);
        Bench.due("empty behind KIND of the tape", mender.feed('m', 1), 1);
        mender.put(0, 0, 0, -1, 0);
        Bench.due("empty behind BEYOND of from", mender.feed('m', 1), 1);
        mender.put(1, 3, 0, 0, 0);
        Bench.due("empty behind FULL", mender.feed('a', 1), 1);
        mender.put(0, 0, 0, 0, 0);
        Bench.due("empty behind KEY", mender.feed('m', 1), 1);
        mender.put(8, 0, 0, 0, 0);
        Bench.due("it stays behind BEYOND of p", mender.feed('n', 1), 2);
        mender.put(2, 0, 0, 0, 0);
        Bench.due("it stays behind NOTHING", mender.feed('o', 1), 3);
        mender.put(0, 99, 0, 0, 0);
        Bench.due("it stays behind NONE", mender.feed('p', 1), 4);
        Bench.due("all of it is the label", mender.put(0, 0, 0, 0, 0), 33);
        Bench.due("as told", Bench.written(mender, 0), "r<mnop,a,w!>");
        Bench.due("empty behind a new node", mender.feed('m', 1), 1);
    }

    private static void takeAnswersHowMany() {
        Bench.sentence("A node goes, its children come in its place: how many these are.");
        BranchMender mender = Bench.with("r(a,b(c,d(e)),w!)", "r(" + Bench.flat(29) + ")");
        Bench.due("two come", mender.take(0, 2), 2);
        Bench.due("in its place", Bench.written(mender, 0), "r(a,c,d(e),w!)");
        Bench.due("none comes", mender.take(0, 1), 0);
        Bench.due("of a WHOLE", mender.take(0, 6), 0);
        Bench.due("as told", Bench.written(mender, 0) + Bench.names(mender, 0), "r(c,d(e))0 3 4 5");
        Bench.due("one comes", mender.take(0, 4), 1);
        Bench.due("28 come", mender.take(1, 8), 28);
        Bench.due("29 nodes", mender.size(1), 29);
        mender.take(0, 3);
        mender.take(0, 5);
        Bench.due("only the root is left", Bench.written(mender, 0), "r");
    }

    private static void takeRoot() {
        Bench.sentence("ROOT: it is the root.");
        BranchMender mender = Bench.with("r", "r(a)", "r<a>");
        Bench.due("alone", mender.take(0, 0), Bench.ROOT);
        Bench.due("with one child", mender.take(1, 1), Bench.ROOT);
        Bench.due("of a KEYED", mender.take(2, 3), Bench.ROOT);
        Bench.due("nothing changed", Bench.written(mender, 1), "r(a)");
    }

    private static void takeKey() {
        Bench.sentence("KEY: two children of a KEYED would have one label.");
        Bench.due("a child of it and one ahead", Bench.with("r<a,b(a)>").take(0, 2), Bench.KEY);
        Bench.due("a child of it and one behind", Bench.with("r<b(a),a>").take(0, 1), Bench.KEY);
        Bench.due("its last child and the last one", Bench.with("r<b(c,a),d,a>").take(0, 1), Bench.KEY);
        Bench.due("two children of it", Bench.with("r<b(a,a)>").take(0, 1), Bench.KEY);
        Bench.due("of a KEYED below the root", Bench.with("r(k<a,b{a}>)").take(0, 3), Bench.KEY);
        Bench.due("its own label goes with it", Bench.with("r<a(a)>").take(0, 1), 1);
        Bench.due("a grandchild of it", Bench.with("r<a,b(c(a))>").take(0, 2), 1);
        Bench.due("alike in a BRANCH", Bench.with("r(a,b(a))").take(0, 2), 1);
        Bench.due("alike in a BAG", Bench.with("r{a,b(a)}").take(0, 2), 1);
        Bench.due("a KEYED's children in a BRANCH", Bench.with("r(a,k<a>)").take(0, 2), 1);
        BranchMender mender = Bench.with("r<a,b(a)>");
        mender.take(0, 2);
        Bench.due("nothing changed", Bench.written(mender, 0) + Bench.names(mender, 0), "r<a,b(a)>0 1 2 3");
    }

    private static void moveAnswersHowMany() {
        Bench.sentence("A node with all under it goes to another parent, as its child from: how many nodes moved.");
        BranchMender mender = Bench.with("r(a(b,c),d)", "r(" + Bench.flat(28) + ",a)");
        Bench.due("a leaf", mender.move(0, 4, 2, 0), 1);
        Bench.due("under a leaf", Bench.written(mender, 0), "r(a(b(d),c))");
        Bench.due("a branch", mender.move(0, 2, 0, 1), 2);
        Bench.due("up", Bench.written(mender, 0) + Bench.names(mender, 0), "r(a(c),b(d))0 1 3 2 4");
        Bench.due("to its own parent", mender.move(0, 1, 0, 1), 2);
        Bench.due("behind the other", Bench.written(mender, 0), "r(b(d),a(c))");
        Bench.due("to where it is", mender.move(0, 1, 0, 1), 2);
        Bench.due("as it was", Bench.written(mender, 0), "r(b(d),a(c))");
        Bench.due("28 of 30 nodes", mender.move(1, 6, 34, 0), 28);
        Bench.due("still 30", mender.size(1), 30);
        Bench.due("as told", Bench.written(mender, 1), "r(a(" + Bench.flat(28) + "))");
    }

    private static void moveRoot() {
        Bench.sentence("ROOT: it is the root.");
        BranchMender mender = Bench.with("r(a)");
        Bench.due("to its child", mender.move(0, 0, 1, 0), Bench.ROOT);
        Bench.due("to itself", mender.move(0, 0, 0, 0), Bench.ROOT);
        Bench.due("to none", mender.move(0, 0, 9, 0), Bench.ROOT);
        Bench.due("alone", Bench.with("r").move(0, 0, 0, 0), Bench.ROOT);
    }

    private static void moveNone() {
        Bench.sentence("Node of p, of the parent: NONE.");
        BranchMender mender = Bench.with("r(a)", "s");
        Bench.due("never had", mender.move(0, 1, 3, 0), Bench.NONE);
        Bench.due("of another tree", mender.move(0, 1, 2, 0), Bench.NONE);
        Bench.due("below 0", mender.move(0, 1, -1, 0), Bench.NONE);
        Bench.due("the root's parent", mender.move(0, 1, -8, 0), Bench.NONE);
    }

    private static void moveWhole() {
        Bench.sentence("KIND: that is a WHOLE.");
        BranchMender mender = Bench.with("r(a,w!,v!)");
        Bench.due("under a WHOLE", mender.move(0, 1, 2, 0), Bench.KIND);
        Bench.due("a WHOLE under another", mender.move(0, 3, 2, 0), Bench.KIND);
        Bench.due("a WHOLE under itself", mender.move(0, 2, 2, 0), Bench.KIND);
        Bench.due("nothing changed", Bench.written(mender, 0), "r(a,w!,v!)");
        Bench.due("a WHOLE itself may move", mender.move(0, 2, 1, 0), 1);
        Bench.due("as told", Bench.written(mender, 0), "r(a(w!),v!)");
    }

    private static void moveUnderItself() {
        Bench.sentence("ROOT: that is the node or under it.");
        BranchMender mender = Bench.with("r(a(b(c),d),e)");
        for (int parent = 1; parent <= 4; parent++) {
            Bench.due("under " + parent, mender.move(0, 1, parent, 0), Bench.ROOT);
        }
        Bench.due("nothing changed", Bench.written(mender, 0), "r(a(b(c),d),e)");
        Bench.due("the one right behind its branch", mender.move(0, 1, 5, 0), 4);
        Bench.due("the one right ahead of it", mender.move(0, 1, 0, 0), 4);
        Bench.due("its own parent", mender.move(0, 3, 2, 0), 1);
        Bench.due("a brother", mender.move(0, 4, 2, 1), 1);
        Bench.due("as told", Bench.written(mender, 0), "r(a(b(c,d)),e)");
    }

    private static void moveBeyond() {
        Bench.sentence("BEYOND: from is below 0, or above how many children it has then.");
        BranchMender mender = Bench.with("r(a(b,c),d)");
        int[] beyond = {-1, 3, Bench.MIN, Bench.MAX};
        for (int from : beyond) {
            Bench.due("from " + from, mender.move(0, 4, 1, from), Bench.BEYOND);
        }
        Bench.due("nothing changed", Bench.written(mender, 0), "r(a(b,c),d)");
        Bench.due("as many as it has", mender.move(0, 4, 1, 2), 1);
        Bench.due("as told", Bench.written(mender, 0), "r(a(b,c,d))");
        Bench.due("the first", mender.move(0, 4, 1, 0), 1);
        Bench.due("as told", Bench.written(mender, 0), "r(a(d,b,c))");
        Bench.due("a leaf has none", mender.move(0, 4, 2, 1), Bench.BEYOND);
        Bench.sentence("(counted when it is gone from where it was)");
        Bench.due("one less then", mender.move(0, 4, 1, 3), Bench.BEYOND);
        Bench.due("the last", mender.move(0, 4, 1, 2), 1);
        Bench.due("as told", Bench.written(mender, 0), "r(a(b,c,d))");
        Bench.due("the only child, from 1", mender.move(0, 1, 0, 1), Bench.BEYOND);
        Bench.due("the only child, from 0", mender.move(0, 1, 0, 0), 4);
        Bench.due("forward by one", mender.move(0, 2, 1, 1), 1);
        Bench.due("as told", Bench.written(mender, 0), "r(a(c,b,d))");
    }

    private static void moveFull() {
        Bench.sentence("FULL: one would be 12 deep under the root.");
        BranchMender leaf = Bench.with("r(" + Bench.chain(11) + ",b)");
        Bench.due("a leaf, 12 deep", leaf.move(0, 12, 11, 0), Bench.FULL);
        Bench.due("nothing changed", Bench.written(leaf, 0), "r(" + Bench.chain(11) + ",b)");
        Bench.due("a leaf, 11 deep", leaf.move(0, 12, 10, 1), 1);
        Bench.due("its depth", leaf.node(0, 12, 3), 11);
        BranchMender branch = Bench.with("r(" + Bench.chain(6) + "," + Bench.chain(6).replace('a', 'b') + ")");
        Bench.due("what is under it, 12 deep", branch.move(0, 7, 6, 0), Bench.FULL);
        Bench.due("what is under it, 11 deep", branch.move(0, 7, 5, 0), 6);
        Bench.due("its depth", branch.node(0, 11, 3), 11);
        BranchMender wide = Bench.with("r(" + Bench.chain(10) + ",b(c,d(e),f))");
        Bench.due("only one of them is too deep", wide.move(0, 11, 9, 0), Bench.FULL);
        Bench.due("none is", wide.move(0, 11, 8, 0), 5);
        BranchMender full = Bench.with("r(a," + "c,".repeat(27) + "c)");
        Bench.due("30 nodes are not too many", full.move(0, 29, 1, 0), 1);
    }

    private static void moveKey() {
        Bench.sentence("KEY: as of take().");
        Bench.due("one behind it", Bench.with("r(a,k<b,a>)").move(0, 1, 2, 0), Bench.KEY);
        Bench.due("one ahead of it", Bench.with("r(a,k<a,b>)").move(0, 1, 2, 2), Bench.KEY);
        Bench.due("a grandchild to a KEYED root", Bench.with("r<a,b(a)>").move(0, 3, 0, 0), Bench.KEY);
        Bench.due("within its own KEYED", Bench.with("r<a,b>").move(0, 1, 0, 1), 1);
        Bench.due("away from its twin's KEYED", Bench.with("r(k<a>,a)").move(0, 2, 0, 1), 1);
        Bench.due("what is under it doesn't count", Bench.with("r(b(a),k<a>)").move(0, 1, 3, 0), 2);
        Bench.due("what is under the other doesn't", Bench.with("r(a,k<b(a)>)").move(0, 1, 2, 0), 1);
        Bench.due("to a BRANCH", Bench.with("r(a,k(a))").move(0, 1, 2, 0), 1);
        Bench.due("to a BAG", Bench.with("r(a,k{a})").move(0, 1, 2, 0), 1);
        BranchMender mender = Bench.with("r(a,k<b,a>)");
        mender.move(0, 1, 2, 0);
        Bench.due("nothing changed", Bench.written(mender, 0) + Bench.names(mender, 0), "r(a,k<b,a>)0 1 2 3 4");
    }

    private static void tapeOfOtherActs() {
        Bench.sentence("an act that answers one changes nothing but what found() tells");
        BranchMender mender = Bench.with("r(a,b)");
        mender.feed('t', 1);
        mender.take(0, 0);
        mender.take(0, 9);
        mender.move(0, 0, 0, 0);
        mender.move(0, 1, 2, 5);
        Bench.due("a refused take() or move() has no use for the tape", mender.feed('t', 1), 2);
        mender.take(0, 1);
        mender.move(0, 2, 0, 0);
        Bench.due("nor has one that is done", mender.feed('t', 1), 3);
    }
}
