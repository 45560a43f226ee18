/**
 * The edges of merging and of found() (term 6, promises 25 to 28), each sentence by itself. No call changes a node's
 * kind, so neither a clash of kinds nor a WHOLE with children can come about.
 */
public final class MergeEdgesTest {
    private static final int O = 0;
    private static final int L = 1;
    private static final int R = 2;
    private static final int TO = 3;

    private MergeEdgesTest() {
    }

    public static void main(String[] args) {
        nothingChanged();
        labelsOfAllThree();
        textsOfAllThree();
        fieldsByThemselves();
        fieldsOfNewNodes();
        fieldsOfTheOneThatHasIt();
        listsOfAllThree();
        emptyLists();
        listsOfNewNodes();
        listsOfTheOneThatHasIt();
        rootsClash();
        comeToTwice();
        onlyOHasIt();
        moreThanThirty();
        twelveDeep();
        keyedTwins();
        clashesNotComeTo();
        clashesInOrder();
        mostClashes();
        allListsAhead();
        placeTo();
        mergeRefused();
        merged();
        clash();
        found();
        foundBeyond();
        Bench.end("edges of merging");
    }

    private static void dueMerge(BranchMender mender, String clashes, String tree) {
        int count = mender.merge(O, L, R, TO);
        Bench.due("how many clashes", count, clashes.isEmpty() ? 0 : clashes.split(" ").length);
        Bench.due("clashes", Bench.clashes(mender), clashes);
        Bench.due("tree", mender.merged() == 0 ? "none" : Bench.written(mender, TO), tree);
        Bench.due("merged", mender.merged(), tree.equals("none") ? 0 : mender.size(TO));
    }

    private static void nothingChanged() {
        Bench.sentence("if L's is O's, R's");
        dueMerge(Bench.threefold("r"), "", "r");
        dueMerge(Bench.threefold("r=1(a=2{b,c},k<d,e!>,w!)"), "", "r=1(a=2{b,c},k<d,e!>,w!)");
        dueMerge(Bench.threefold(Bench.flat(30)), "", Bench.flat(30));
        dueMerge(Bench.threefold(Bench.chain(12)), "", Bench.chain(12));
        BranchMender names = Bench.threefold("r(a,b)");
        names.merge(O, L, R, TO);
        Bench.due("names", Bench.names(names, TO), "0 1 2");
    }

    /** Lays labels of node 1 in L and R over O's, which is a. */
    private static void dueLabel(String left, String right, String clashes, String tree) {
        BranchMender mender = Bench.threefold("r(a)");
        Bench.relabel(mender, L, 1, left);
        Bench.relabel(mender, R, 1, right);
        dueMerge(mender, clashes, tree);
    }

    private static void labelsOfAllThree() {
        Bench.sentence("its label: if L's is O's, R's; else if R's is O's, or both are alike, L's; else it clashes, and O's stays");
        dueLabel("a", "a", "", "r(a)");
        dueLabel("a", "x", "", "r(x)");
        dueLabel("x", "a", "", "r(x)");
        dueLabel("x", "x", "", "r(x)");
        dueLabel("x", "y", "1:1", "r(a)");
        dueLabel("aa", "aaa", "1:1", "r(a)");
        dueLabel("aaaaaa", "a", "", "r(aaaaaa)");
    }

    private static void dueText(String left, String right, String clashes, String tree) {
        BranchMender mender = Bench.threefold("r(a=1)");
        Bench.retext(mender, L, 1, left);
        Bench.retext(mender, R, 1, right);
        dueMerge(mender, clashes, tree);
    }

    private static void textsOfAllThree() {
        Bench.sentence("its text: if L's is O's, R's; else if R's is O's, or both are alike, L's; else it clashes, and O's stays");
        dueText("1", "1", "", "r(a=1)");
        dueText("1", "", "", "r(a)");
        dueText("", "1", "", "r(a)");
        dueText("", "", "", "r(a)");
        dueText("", "2", "1:2", "r(a=1)");
        dueText("2", "", "1:2", "r(a=1)");
        dueText("2", "3", "1:2", "r(a=1)");
        dueText("2", "2", "", "r(a=2)");
        dueText("12345678", "1", "", "r(a=12345678)");
        BranchMender empty = Bench.threefold("r");
        Bench.retext(empty, R, 0, "1");
        dueMerge(empty, "", "r=1");
        Bench.retext(empty, L, 0, "2");
        dueMerge(empty, "0:2", "r");
    }

    private static void fieldsByThemselves() {
        Bench.sentence("its kind, label, text (each by itself)");
        BranchMender mender = Bench.threefold("r(a=1)");
        Bench.relabel(mender, L, 1, "x");
        Bench.retext(mender, R, 1, "2");
        dueMerge(mender, "", "r(x=2)");
        Bench.relabel(mender, R, 1, "y");
        dueMerge(mender, "1:1", "r(a=2)");
        Bench.retext(mender, L, 1, "3");
        dueMerge(mender, "1:1 1:2", "r(a=1)");
        Bench.relabel(mender, R, 1, "x");
        dueMerge(mender, "1:2", "r(x=1)");
    }

    /** O has the root alone, both others the same new BAG, 1. */
    private static BranchMender newNode() {
        BranchMender mender = Bench.with("r");
        mender.copy(O, L);
        Bench.putAt(mender, L, "n", 0, 1, 0, 0);
        mender.copy(L, R);
        return mender;
    }

    private static void fieldsOfNewNodes() {
        Bench.sentence("Of a node that O hasn't, but both others have: L's, and a clash for each field that differs.");
        BranchMender mender = newNode();
        dueMerge(mender, "", "r(n{})");
        Bench.relabel(mender, L, 1, "x");
        dueMerge(mender, "1:1", "r(x{})");
        Bench.retext(mender, R, 1, "1");
        dueMerge(mender, "1:1 1:2", "r(x{})");
        Bench.relabel(mender, R, 1, "x");
        dueMerge(mender, "1:2", "r(x{})");
        Bench.retext(mender, L, 1, "1");
        dueMerge(mender, "", "r(x=1{})");
        mender.retext(R, 1);
        dueMerge(mender, "1:2", "r(x=1{})");
    }

    private static void fieldsOfTheOneThatHasIt() {
        Bench.sentence("Of others the fields of the one that has it (of O and one of them: that one's).");
        BranchMender left = Bench.threefold("r");
        Bench.putAt(left, L, "n", 0, 2, 0, 0);
        Bench.retext(left, L, 1, "1");
        dueMerge(left, "", "r(n=1<>)");
        BranchMender right = Bench.threefold("r");
        Bench.putAt(right, R, "n", 0, 1, 0, 0);
        Bench.retext(right, R, 1, "1");
        dueMerge(right, "", "r(n=1{})");
        for (int has = L; has <= R; has++) {
            BranchMender one = Bench.threefold("r(a(b),c)");
            one.take(L + R - has, 1);
            Bench.relabel(one, has, 1, "x");
            Bench.retext(one, has, 1, "1");
            Bench.putAt(one, has, "n", 0, 0, 0, 0);
            dueMerge(one, "0:3", "r(x=1(b),c)");
        }
    }

    private static void listsOfAllThree() {
        Bench.sentence("LISTS of children (of names): likewise of nodes that all three have (a clash: O's list)");
        BranchMender left = Bench.threefold("r(a,b,c)");
        left.move(L, 3, 0, 0);
        dueMerge(left, "", "r(c,a,b)");
        BranchMender right = Bench.threefold("r(a,b,c)");
        right.move(R, 1, 0, 2);
        dueMerge(right, "", "r(b,c,a)");
        BranchMender alike = Bench.threefold("r(a,b,c)");
        alike.move(L, 1, 0, 2);
        alike.move(R, 1, 0, 2);
        dueMerge(alike, "", "r(b,c,a)");
        alike.move(R, 2, 0, 1);
        dueMerge(alike, "0:3", "r(a,b,c)");
        BranchMender taken = Bench.threefold("r(a,b,c)");
        taken.take(L, 3);
        dueMerge(taken, "", "r(a,b)");
        taken.take(R, 1);
        dueMerge(taken, "0:3", "r(a,b,c)");
        BranchMender deeper = Bench.threefold("r(a,b)");
        deeper.move(L, 2, 1, 0);
        dueMerge(deeper, "", "r(a(b))");
        Bench.putAt(deeper, R, "n", 1, 0, 0, 0);
        dueMerge(deeper, "1:3", "r(a)");
        BranchMender widest = Bench.threefold(Bench.flat(30));
        widest.move(L, 29, 0, 0);
        Bench.due("lists of 29", widest.merge(O, L, R, TO) + widest.merge(O, R, L, TO), 0);
        Bench.due("the one that was moved", widest.node(TO, 1, 0), 29);
        widest.move(R, 29, 0, 27);
        Bench.due("the last two alone differ", widest.merge(O, L, R, TO), 1);
        Bench.due("O's list", widest.node(TO, 29, 0), 29);
    }

    private static void emptyLists() {
        Bench.sentence("LISTS of children (of names): likewise of nodes that all three have");
        BranchMender left = Bench.threefold("r(a)");
        left.take(L, 1);
        dueMerge(left, "", "r");
        left.take(R, 1);
        dueMerge(left, "", "r");
        BranchMender right = Bench.threefold("r(a,b)");
        right.take(R, 1);
        right.take(R, 2);
        dueMerge(right, "", "r");
        Bench.putAt(right, L, "n", 0, 0, 2, 0);
        dueMerge(right, "0:3", "r(a,b)");
        BranchMender filled = Bench.threefold("r");
        Bench.putAt(filled, R, "n", 0, 0, 0, 0);
        dueMerge(filled, "", "r(n)");
        Bench.putAt(filled, L, "m", 0, 0, 0, 0);
        dueMerge(filled, "0:3", "r");
        BranchMender longer = Bench.threefold("r(a)");
        Bench.putAt(longer, L, "n", 0, 0, 1, 0);
        dueMerge(longer, "", "r(a,n)");
        longer.copy(L, R);
        Bench.putAt(longer, R, "m", 0, 0, 2, 0);
        dueMerge(longer, "0:3", "r(a)");
    }

    private static void listsOfNewNodes() {
        Bench.sentence("of a node that O hasn't, but both have: L's, and a clash if they differ");
        BranchMender mender = Bench.with("r(a,b)");
        mender.copy(O, L);
        Bench.putAt(mender, L, "n", 0, 0, 0, 2);
        mender.copy(L, R);
        dueMerge(mender, "", "r(n(a,b))");
        mender.move(R, 1, 3, 1);
        dueMerge(mender, "3:3", "r(n(a,b))");
        mender.copy(L, 4);
        mender.copy(R, L);
        mender.copy(4, R);
        dueMerge(mender, "3:3", "r(n(b,a))");
        mender.take(R, 1);
        mender.take(R, 2);
        dueMerge(mender, "3:3", "r(n(b,a))");
    }

    private static void listsOfTheOneThatHasIt() {
        Bench.sentence("otherwise that of the one of L and R that has it");
        BranchMender left = Bench.threefold("r(a,b)");
        Bench.putAt(left, L, "n", 0, 0, 0, 2);
        dueMerge(left, "", "r(n(a,b))");
        BranchMender right = Bench.threefold("r(a,b)");
        Bench.putAt(right, R, "n", 0, 0, 1, 1);
        dueMerge(right, "", "r(a,n(b))");
        for (int has = L; has <= R; has++) {
            BranchMender one = Bench.threefold("r(a(b),c)");
            one.take(L + R - has, 1);
            Bench.putAt(one, has, "n", 1, 0, 1, 0);
            Bench.putAt(one, has, "m", 0, 0, 2, 0);
            dueMerge(one, "0:3", "r(a(b,n),c)");
        }
    }

    private static void rootsClash() {
        Bench.sentence("(if the three roots have one name; else that is the only clash, and there is no tree)");
        int[][] places = {{0, 0, 4}, {0, 4, 0}, {4, 0, 0}, {0, 4, 4}, {4, 4, 0}, {4, 0, 4}, {0, 4, 5}};
        for (int[] place : places) {
            BranchMender mender = Bench.with("r(a)");
            Bench.read(mender, 4, "r(a)");
            Bench.read(mender, 5, "r(a)");
            Bench.due("one clash", mender.merge(place[0], place[1], place[2], TO), 1);
            Bench.due("of the roots", Bench.clashes(mender), "-1:4");
            Bench.due("no tree", mender.merged() + mender.size(TO), Bench.NOTHING);
        }
        BranchMender others = Bench.threefold("r(a(b))");
        Bench.relabel(others, L, 1, "x");
        Bench.relabel(others, R, 1, "y");
        Bench.read(others, O, "r");
        Bench.due("fields clash, too, but only that is told", others.merge(O, L, R, TO), 1);
        Bench.due("of the roots", Bench.clashes(others), "-1:4");
    }

    private static void comeToTwice() {
        Bench.sentence("If a name is come to twice: all lists clash, and there is no tree.");
        BranchMender mender = Bench.threefold("r(a,b,c)");
        mender.move(L, 3, 1, 0);
        mender.move(R, 3, 2, 0);
        dueMerge(mender, "-1:5", "none");
        mender.move(R, 3, 0, 2);
        dueMerge(mender, "", "r(a(c),b)");
        BranchMender ring = Bench.threefold("r(a,b,c)");
        ring.move(L, 1, 2, 0);
        ring.move(R, 2, 1, 0);
        dueMerge(ring, "-1:5 0:3", "none");
        BranchMender lost = Bench.threefold("r(x(a),y(b))");
        lost.move(L, 2, 4, 0);
        lost.move(R, 4, 2, 0);
        dueMerge(lost, "", "r(x,y)");
    }

    private static void onlyOHasIt() {
        Bench.sentence("or one that only O has");
        BranchMender mender = Bench.threefold("r(a,b,c)");
        mender.take(L, 1);
        mender.take(R, 1);
        dueMerge(mender, "", "r(b,c)");
        mender.take(L, 2);
        dueMerge(mender, "-1:5 0:3", "none");
        mender.take(R, 2);
        dueMerge(mender, "", "r(c)");
        BranchMender deeper = Bench.threefold("r(a(b,c),d)");
        deeper.take(L, 2);
        deeper.take(R, 2);
        deeper.move(L, 3, 4, 0);
        dueMerge(deeper, "-1:5 1:3", "none");
    }

    private static void moreThanThirty() {
        Bench.sentence("or there would be more than 30 nodes");
        BranchMender mender = Bench.threefold("r(a(" + "x,".repeat(25) + "x),b)");
        Bench.putAt(mender, L, "n", 1, 0, 0, 0);
        Bench.due("30 nodes", mender.merge(O, L, R, TO) + mender.merged(), 30);
        Bench.putAt(mender, R, "m", 28, 0, 0, 0);
        Bench.due("each hand has 30", mender.size(L) + mender.size(R), 60);
        dueMerge(mender, "-1:5", "none");
        mender.take(R, 27);
        dueMerge(mender, "1:3", "r(a(" + "x,".repeat(25) + "x),b(m))");
    }

    private static void twelveDeep() {
        Bench.sentence("or one 12 deep under the root");
        String text = "r(" + Bench.chain(6) + "," + Bench.chain(6).replace('a', 'b') + ")";
        BranchMender mender = Bench.threefold(text);
        mender.move(L, 7, 5, 0);
        Bench.due("11 deep", mender.merge(O, L, R, TO), 0);
        Bench.due("the deepest", mender.node(TO, 11, 3), 11);
        Bench.putAt(mender, R, "n", 7, 0, 0, 1);
        dueMerge(mender, "-1:5", "none");
        BranchMender leaf = Bench.threefold("r(" + Bench.chain(10) + ",b)");
        leaf.move(L, 11, 10, 0);
        Bench.due("11 deep", leaf.merge(O, L, R, TO) + leaf.merged(), 12);
        Bench.putAt(leaf, R, "n", 11, 0, 0, 0);
        dueMerge(leaf, "-1:5", "none");
    }

    private static void keyedTwins() {
        Bench.sentence("or a KEYED with two of one label");
        BranchMender labels = Bench.threefold("r<a,b>");
        Bench.relabel(labels, L, 1, "x");
        Bench.relabel(labels, R, 2, "x");
        dueMerge(labels, "-1:5", "none");
        Bench.relabel(labels, R, 2, "y");
        dueMerge(labels, "", "r<x,y>");
        BranchMender placed = Bench.threefold("r(k<a>,b)");
        placed.move(L, 3, 1, 1);
        dueMerge(placed, "", "r(k<a,b>)");
        Bench.relabel(placed, R, 3, "a");
        dueMerge(placed, "-1:5", "none");
        BranchMender kept = Bench.threefold("r<a,b>");
        Bench.relabel(kept, L, 1, "bb");
        Bench.relabel(kept, R, 1, "c");
        Bench.relabel(kept, L, 2, "aa");
        dueMerge(kept, "1:1", "r<a,aa>");
        BranchMender origin = Bench.threefold("r<a,b>");
        Bench.relabel(origin, L, 1, "x");
        Bench.relabel(origin, R, 1, "y");
        Bench.relabel(origin, R, 2, "a");
        dueMerge(origin, "-1:5 1:1", "none");
        BranchMender bag = Bench.threefold("r{a,b}");
        Bench.relabel(bag, L, 1, "x");
        Bench.relabel(bag, R, 2, "x");
        dueMerge(bag, "", "r{x,x}");
    }

    private static void clashesNotComeTo() {
        Bench.sentence("CLASHES are those of fields and lists of all nodes that L and R have, whether come to or not");
        BranchMender mender = Bench.threefold("r(a(n=1(p,q,s)),b,c)");
        mender.move(L, 2, 6, 0);
        mender.take(R, 6);
        dueMerge(mender, "", "r(a,c)");
        Bench.relabel(mender, L, 2, "x");
        Bench.relabel(mender, R, 2, "y");
        Bench.retext(mender, L, 2, "2");
        Bench.retext(mender, R, 2, "3");
        mender.take(L, 3);
        mender.take(R, 4);
        dueMerge(mender, "2:1 2:2 2:3", "r(a,c)");
        BranchMender oneHand = Bench.threefold("r(a=1,b)");
        oneHand.take(L, 1);
        Bench.relabel(oneHand, R, 1, "x");
        Bench.retext(oneHand, R, 1, "2");
        dueMerge(oneHand, "", "r(b)");
    }

    private static void clashesInOrder() {
        Bench.sentence("by name (rising), of one name kind, label, text, list");
        BranchMender mender = Bench.threefold("r(a(b,c,d),e)");
        mender.move(L, 5, 0, 0);
        mender.move(R, 5, 0, 0);
        for (int name = 5; name >= 0; name--) {
            Bench.retext(mender, L, name, "1");
            Bench.retext(mender, R, name, "2");
            Bench.relabel(mender, L, name, "x");
            Bench.relabel(mender, R, name, "y");
        }
        mender.move(L, 4, 1, 0);
        mender.move(R, 2, 1, 1);
        String due = "0:1 0:2 1:1 1:2 1:3 2:1 2:2 3:1 3:2 4:1 4:2 5:1 5:2";
        dueMerge(mender, due, "r(e,a(b,c,d))");
    }

    private static void mostClashes() {
        Bench.sentence("how many CLASHES");
        BranchMender mender = Bench.threefold("r(" + "a(b,c,d),".repeat(7) + "e)");
        StringBuilder due = new StringBuilder();
        for (int name = 0; name < 30; name++) {
            boolean listed = name == 0 || name % 4 == 1 && name < 29;
            if (listed) {
                mender.move(L, name == 0 ? 29 : name + 3, name, 0);
                mender.move(R, name == 0 ? 29 : name + 3, name, 1);
            }
            Bench.retext(mender, L, name, "1");
            Bench.retext(mender, R, name, "2");
            Bench.relabel(mender, L, name, "x");
            Bench.relabel(mender, R, name, "y");
            due.append(name == 0 ? "" : " ").append(name).append(":1 ").append(name).append(":2");
            due.append(listed ? " " + name + ":3" : "");
        }
        Bench.due("clashes of 30 nodes", mender.merge(O, L, R, TO), 68);
        Bench.due("all of them", Bench.clashes(mender), due.toString());
    }

    private static void allListsAhead() {
        Bench.sentence("ahead of them that of all lists, whose name is -1 (so is that of the roots)");
        BranchMender mender = Bench.threefold("r(a,b,c)");
        mender.move(L, 3, 1, 0);
        mender.move(R, 3, 2, 0);
        Bench.relabel(mender, L, 0, "x");
        Bench.relabel(mender, R, 0, "y");
        Bench.retext(mender, L, 3, "1");
        Bench.retext(mender, R, 3, "2");
        dueMerge(mender, "-1:5 0:1 3:2", "none");
    }

    private static void placeTo() {
        Bench.sentence("(to is as it was, if there is no tree; whether there is, merged() tells)");
        for (int to = 0; to < 8; to++) {
            BranchMender mender = Bench.threefold("r(a,b)");
            Bench.relabel(mender, L, 1, "x");
            Bench.relabel(mender, R, 2, "y");
            Bench.due("merged to " + to, mender.merge(O, L, R, to), 0);
            Bench.due("it is there", Bench.written(mender, to), "r(x,y)");
            Bench.due("O", Bench.written(mender, O), to == O ? "r(x,y)" : "r(a,b)");
            Bench.due("L", Bench.written(mender, L), to == L ? "r(x,y)" : "r(x,b)");
            Bench.due("R", Bench.written(mender, R), to == R ? "r(x,y)" : "r(a,y)");
        }
        BranchMender none = Bench.threefold("r<a,b>");
        Bench.relabel(none, L, 1, "x");
        Bench.relabel(none, R, 2, "x");
        Bench.due("no tree", none.merge(O, L, R, TO), 1);
        Bench.due("an empty place stays empty", none.size(TO), Bench.NOTHING);
        Bench.due("over L", none.merge(O, L, R, L) + none.merged(), 1);
        Bench.due("a tree stays", Bench.written(none, L) + Bench.names(none, L), "r<x,b>0 1 2");
        Bench.due("one tree three times", none.merge(L, L, L, L) + none.merged(), 3);
        Bench.due("as it was", Bench.written(none, L), "r<x,b>");
    }

    private static void mergeRefused() {
        Bench.sentence("Tree o. Tree l. Tree r. BEYOND: to isn't 0 .. 7.");
        BranchMender mender = Bench.threefold("r(a)");
        Bench.relabel(mender, L, 0, "x");
        Bench.relabel(mender, R, 0, "y");
        mender.merge(O, L, R, TO);
        int[] beyond = {-1, 8, Bench.MIN, Bench.MAX};
        for (int place : beyond) {
            Bench.due("o " + place, mender.merge(place, 7, 7, 9), Bench.BEYOND);
            Bench.due("l " + place, mender.merge(0, place, 7, 9), Bench.BEYOND);
            Bench.due("r " + place, mender.merge(0, 1, place, 9), Bench.BEYOND);
            Bench.due("to " + place, mender.merge(0, 1, 2, place), Bench.BEYOND);
        }
        Bench.due("o is empty", mender.merge(7, 9, 9, 9), Bench.NOTHING);
        Bench.due("l is empty", mender.merge(0, 7, 9, 9), Bench.NOTHING);
        Bench.due("r is empty", mender.merge(0, 1, 7, 9), Bench.NOTHING);
        Bench.due("the latest merge()'s clashes stay", Bench.clashes(mender), "0:1");
        Bench.due("and its nodes", mender.merged(), 2);
    }

    private static void merged() {
        Bench.sentence("Nodes of the tree that the latest merge() made; 0: it made none (or there was none).");
        BranchMender mender = Bench.threefold("r");
        Bench.due("there was none", mender.merged(), 0);
        mender.merge(O, L, R, TO);
        Bench.due("one", mender.merged(), 1);
        mender.clear(TO);
        mender.merge(O, L, R, 8);
        Bench.due("it stays", mender.merged(), 1);
        Bench.read(mender, L, Bench.flat(30));
        mender.merge(L, L, L, TO);
        Bench.due("thirty", mender.merged(), 30);
        mender.merge(O, L, R, TO);
        Bench.due("it made none", mender.merged(), 0);
        Bench.due("but a tree is there", mender.size(TO), 30);
    }

    private static void clash() {
        Bench.sentence("NONE: there is no such clash. BEYOND: another what.");
        BranchMender mender = Bench.threefold("r=1");
        Bench.due("there was no merge()", mender.clash(0, 0), Bench.NONE);
        mender.merge(O, L, R, TO);
        Bench.due("none clashed", mender.clash(0, 0), Bench.NONE);
        Bench.relabel(mender, L, 0, "x");
        Bench.relabel(mender, R, 0, "y");
        Bench.retext(mender, L, 0, "2");
        Bench.retext(mender, R, 0, "3");
        mender.merge(O, L, R, TO);
        int[] none = {-1, 2, Bench.MIN, Bench.MAX};
        for (int i : none) {
            Bench.due("clash " + i, mender.clash(i, 0), Bench.NONE);
            Bench.due("and another what", mender.clash(i, 2), Bench.NONE);
        }
        int[] others = {-1, 2, Bench.MIN, Bench.MAX};
        for (int what : others) {
            Bench.due("what " + what, mender.clash(1, what), Bench.BEYOND);
        }
        Bench.due("the first", mender.clash(0, 0) * 10 + mender.clash(0, 1), 1);
        Bench.due("the last", mender.clash(1, 0) * 10 + mender.clash(1, 1), 2);
        Bench.read(mender, 4, "r");
        mender.merge(4, L, R, TO);
        int before = mender.found(-1);
        Bench.due("the roots", mender.clash(0, 1), 4);
        Bench.due("a name of -1", mender.clash(0, 0), -1);
        Bench.due("is no finding", mender.found(-1), before);
        Bench.due("no more than that", mender.clash(1, 0), Bench.NONE);
    }

    private static void found() {
        Bench.sentence("How many acts have answered a finding (-1 .. -7, or -9: what read() answered below that)");
        BranchMender mender = Bench.with("r<a(b),b,w!>");
        int[] findings = {-1, -2, -3, -4, -5, -6, -7, -9};
        for (int finding : findings) {
            Bench.due("none yet of " + finding, mender.found(finding), 0);
        }
        mender.size(8);
        mender.size(1);
        Bench.relabel(mender, 0, 0, "A");
        mender.take(0, 1);
        Bench.feed(mender, "x".repeat(400));
        mender.feed(0, 1);
        mender.take(0, 99);
        mender.take(0, 0);
        mender.read(0);
        for (int finding : findings) {
            Bench.due("one of " + finding, mender.found(finding), 1);
        }
        mender.read(0);
        mender.letter(-1);
        mender.node(0, 0, 4);
        mender.acts();
        mender.merged();
        Bench.due("another one of read()", mender.found(-9), 2);
        for (int finding = -7; finding < 0; finding++) {
            Bench.due("only what answers a finding is counted, " + finding, mender.found(finding), 1);
        }
    }

    private static void foundBeyond() {
        Bench.sentence("BEYOND: another number (counted, too)");
        BranchMender mender = new BranchMender();
        int[] others = {0, 1, 7, 9, -8, -10, -11, -410, Bench.MIN, Bench.MAX};
        for (int k = 0; k < others.length; k++) {
            Bench.due("found of " + others[k], mender.found(others[k]), Bench.BEYOND);
            Bench.due("counted", mender.found(-1), k + 1);
        }
        Bench.due("not of others", mender.found(-9), 0);
    }
}
