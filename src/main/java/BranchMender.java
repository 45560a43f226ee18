/**
 * A mender of branches: small trees are read, changed by acts, compared, known again and merged.
 * What each call promises stands in the document that the README names.
 *
 * Every row is made once, in a constructor, and used again by each call, because all calls of a
 * run live in one room that is never swept.
 */
public final class BranchMender {
    private static final int BEYOND = -1;
    private static final int NOTHING = -2;
    private static final int KIND = -3;
    private static final int KEY = -4;
    private static final int FULL = -5;
    private static final int NONE = -6;
    private static final int ROOT = -7;
    private static final int NO_PARENT = -8;
    private static final int UNREADABLE = -9;
    private static final int FIRST_WRONG = -10;

    private static final int PLACES = 8;
    private static final int MOST_NODES = 30;
    private static final int DEEPEST = 11;
    private static final int MOST_TAPE = 400;
    private static final int MOST_LETTERS = 6;
    private static final int MOST_SIGNS = 8;
    private static final int MOST_PRICE = 1000;

    private static final int BRANCH = 0;
    private static final int BAG = 1;
    private static final int KEYED = 2;
    private static final int WHOLE = 3;

    private static final int RELABEL = 0;
    private static final int RETEXT = 1;
    private static final int PUT = 2;
    private static final int TAKE = 3;

    private static final int KIND_FIELD = 0;
    private static final int LABEL_FIELD = 1;
    private static final int TEXT_FIELD = 2;
    private static final int LIST = 3;
    private static final int ROOTS = 4;
    private static final int ALL_LISTS = 5;

    private static final int NO_ROW = -1;
    private static final long NO_WORD = -1L;

    private final Tree[] places = new Tree[PLACES];
    // The reader's own rows are used by all acts: no part is handed out while this object is made.
    private final Reader reader = new Reader();
    private final Tape tape = reader.tape;
    private final Tree trial = reader.tree;
    private final Writer writer = new Writer();
    private final int[] prices = {2, 1, 3, 3};
    private final Aligner aligner = new Aligner();
    private final Mending mending = new Mending();
    private final Kinship kinship = new Kinship();
    private final Merger merger = new Merger();
    private final int[] answered = new int[1 - UNREADABLE];
    private int nextName;

    public BranchMender() {
        for (int p = 0; p < PLACES; p++) {
            places[p] = new Tree();
        }
    }

    public int feed(long w, int n) {
        if (n < 1 || n > 8) {
            return tell(BEYOND);
        }
        if (tape.length + n > MOST_TAPE) {
            return tell(FULL);
        }
        for (int k = 0; k < n; k++) {
            tape.append(signAt(w, k));
        }
        return tape.length;
    }

    public int read(int p) {
        if (!isPlace(p)) {
            return tell(BEYOND);
        }
        int wrong = reader.parse();
        tape.length = 0;
        if (wrong >= 0) {
            answered[-UNREADABLE]++;
            return FIRST_WRONG - wrong;
        }
        for (int row = 0; row < trial.count; row++) {
            trial.name[row] = nextName;
            nextName++;
        }
        places[p].become(trial);
        return trial.count;
    }

    public int write(int p) {
        int lack = lackOfTree(p);
        if (lack < 0) {
            return tell(lack);
        }
        writer.spell(places[p]);
        return writer.length;
    }

    public int letter(int i) {
        return i >= 0 && i < writer.length ? writer.bytes[i] : -1;
    }

    public int copy(int p, int q) {
        int lack = lackOfTree(p);
        if (lack < 0) {
            return tell(lack);
        }
        if (!isPlace(q)) {
            return tell(BEYOND);
        }
        places[q].become(places[p]);
        return places[q].count;
    }

    public int clear(int p) {
        if (!isPlace(p)) {
            return tell(BEYOND);
        }
        int had = places[p].count > 0 ? 1 : 0;
        places[p].count = 0;
        return had;
    }

    public int node(int p, int i, int what) {
        int lack = lackOfTree(p);
        if (lack < 0) {
            return tell(lack);
        }
        Tree tree = places[p];
        if (i < 0 || i >= tree.count || what < 0 || what > 8) {
            return tell(BEYOND);
        }
        return detail(tree, i, what);
    }

    public int size(int p) {
        int lack = lackOfTree(p);
        return lack < 0 ? tell(lack) : places[p].count;
    }

    // ---- acts

    public int relabel(int p, int name) {
        int row = seekNode(p, name);
        if (row < 0) {
            return tell(row);
        }
        long label = tape.asLabel();
        tape.length = 0;
        if (label == NO_WORD) {
            return tell(KIND);
        }
        trial.become(places[p]);
        trial.label[row] = label;
        return tryOut(p, lengthOf(label));
    }

    public int retext(int p, int name) {
        int row = seekNode(p, name);
        if (row < 0) {
            return tell(row);
        }
        long text = tape.asText();
        tape.length = 0;
        if (text == NO_WORD) {
            return tell(KIND);
        }
        places[p].text[row] = text;
        return lengthOf(text);
    }

    public int put(int p, int name, int kind, int from, int n) {
        int row = seekNode(p, name);
        if (row < 0) {
            return tell(row);
        }
        long label = tape.asLabel();
        tape.length = 0;
        if (kind < BRANCH || kind > KEYED || places[p].kind[row] == WHOLE || label == NO_WORD) {
            return tell(KIND);
        }
        int children = places[p].childrenOf(row);
        if (from < 0 || n < 0 || from > children || n > children - from) {
            return tell(BEYOND);
        }
        if (places[p].count == MOST_NODES) {
            return tell(FULL);
        }
        trial.become(places[p]);
        int wrapper = trial.wrap(row, from, n);
        trial.setRow(wrapper, nextName, kind, label);
        int answer = tryOut(p, nextName);
        if (answer >= 0) {
            nextName++;
        }
        return answer;
    }

    public int take(int p, int name) {
        int row = seekNode(p, name);
        if (row < 0) {
            return tell(row);
        }
        if (row == 0) {
            return tell(ROOT);
        }
        trial.become(places[p]);
        trial.dissolve(row);
        return tryOut(p, places[p].childrenOf(row));
    }

    public int move(int p, int name, int parent, int from) {
        int row = seekNode(p, name);
        if (row < 0) {
            return tell(row);
        }
        int above = seekParent(places[p], row, parent);
        if (above < 0) {
            return tell(above);
        }
        trial.become(places[p]);
        trial.cutOut(row);
        if (above > row) {
            above -= places[p].span[row];
        }
        if (from < 0 || from > trial.childrenOf(above)) {
            return tell(BEYOND);
        }
        trial.graft(places[p], row, above, from);
        return tryOut(p, places[p].span[row]);
    }

    // ---- prices, distances

    public int price(int act, int v) {
        if (act < RELABEL || act > TAKE || v < 0 || v > MOST_PRICE) {
            return tell(BEYOND);
        }
        int was = prices[act];
        prices[act] = v;
        return was;
    }

    public int distance(int p, int q) {
        int lack = lackOfTrees(p, q);
        return lack < 0 ? tell(lack) : aligner.align(places[p], places[q], prices);
    }

    public int map(int p, int q) {
        int lack = lackOfTrees(p, q);
        if (lack < 0) {
            return tell(lack);
        }
        aligner.align(places[p], places[q], prices);
        aligner.choosePairs();
        mending.plan(places[p], places[q], aligner, prices);
        return mending.pairCount;
    }

    public int pair(int i, int what) {
        if (i < 0 || i >= mending.pairCount) {
            return tell(NONE);
        }
        if (what < 0 || what > 1) {
            return tell(BEYOND);
        }
        return what == 0 ? mending.firstName[i] : mending.secondName[i];
    }

    public int acts() {
        return mending.actCount;
    }

    public int act(int i, int what) {
        if (i < 0 || i >= mending.actCount) {
            return tell(NONE);
        }
        if (what < 0 || what > 2) {
            return tell(BEYOND);
        }
        if (what == 0) {
            return mending.actKind[i];
        }
        return what == 1 ? mending.actName[i] : mending.actPrice[i];
    }

    public int like() {
        // Every tree has a node, so no nodes at all means that nothing was mapped yet.
        if (mending.nodes == 0) {
            return tell(NONE);
        }
        return 200 * mending.pairCount / mending.nodes;
    }

    public int same(int p, int q) {
        int lack = lackOfTrees(p, q);
        if (lack < 0) {
            return tell(lack);
        }
        kinship.forget();
        kinship.groupAll(places[p]);
        int group = kinship.groupOf[0];
        kinship.groupAll(places[q]);
        return kinship.groupOf[0] == group ? 1 : 0;
    }

    public int unlike(int p) {
        int lack = lackOfTree(p);
        if (lack < 0) {
            return tell(lack);
        }
        kinship.forget();
        kinship.groupAll(places[p]);
        return kinship.groups;
    }

    public int shared(int p, int q) {
        int lack = lackOfTrees(p, q);
        if (lack < 0) {
            return tell(lack);
        }
        kinship.forget();
        kinship.groupAll(places[q]);
        int groupsOfSecond = kinship.groups;
        kinship.groupAll(places[p]);
        int common = 0;
        for (int row = 0; row < places[p].count; row++) {
            if (kinship.groupOf[row] < groupsOfSecond) {
                common++;
            }
        }
        return common;
    }

    // ---- merging

    public int merge(int o, int l, int r, int to) {
        int lack = lackOfTrees(o, l);
        if (lack == 0) {
            lack = lackOfTree(r);
        }
        if (lack < 0) {
            return tell(lack);
        }
        if (!isPlace(to)) {
            return tell(BEYOND);
        }
        merger.layTogether(places[o], places[l], places[r]);
        if (merger.made.count > 0) {
            places[to].become(merger.made);
        }
        return merger.clashCount;
    }

    public int merged() {
        return merger.made.count;
    }

    public int clash(int i, int what) {
        if (i < 0 || i >= merger.clashCount) {
            return tell(NONE);
        }
        if (what < 0 || what > 1) {
            return tell(BEYOND);
        }
        return what == 0 ? merger.clashName[i] : merger.clashWhat[i];
    }

    public int found(int finding) {
        boolean named = finding <= BEYOND && finding >= ROOT || finding == UNREADABLE;
        return named ? answered[-finding] : tell(BEYOND);
    }

    private int tell(int finding) {
        answered[-finding]++;
        return finding;
    }

    private static boolean isPlace(int p) {
        return p >= 0 && p < PLACES;
    }

    private int lackOfTree(int p) {
        if (!isPlace(p)) {
            return BEYOND;
        }
        return places[p].count == 0 ? NOTHING : 0;
    }

    private int lackOfTrees(int p, int q) {
        int lack = lackOfTree(p);
        return lack < 0 ? lack : lackOfTree(q);
    }

    /** The node's row, or a finding. */
    private int seekNode(int p, int name) {
        int lack = lackOfTree(p);
        if (lack < 0) {
            return lack;
        }
        int row = places[p].rowOf(name);
        return row == NO_ROW ? NONE : row;
    }

    /** The row of the parent that a node is to be moved to, or a finding. */
    private static int seekParent(Tree tree, int row, int parent) {
        if (row == 0) {
            return ROOT;
        }
        int above = tree.rowOf(parent);
        if (above == NO_ROW) {
            return NONE;
        }
        if (tree.kind[above] == WHOLE) {
            return KIND;
        }
        return above >= row && above < tree.endOf(row) ? ROOT : above;
    }

    /** The trial takes the tree's place only if it is sound: a refused act leaves no trace. */
    private int tryOut(int p, int answer) {
        if (trial.isTooDeep()) {
            return tell(FULL);
        }
        if (trial.hasTwins()) {
            return tell(KEY);
        }
        places[p].become(trial);
        return answer;
    }

    private static int detail(Tree tree, int row, int what) {
        switch (what) {
            case 0:
                return tree.name[row];
            case 1:
                return tree.kind[row];
            case 2:
                return tree.childrenOf(row);
            case 3:
                return tree.depth[row];
            case 4:
                int above = tree.parentOf(row);
                return above == NO_ROW ? NO_PARENT : tree.name[above];
            case 5:
                return tree.span[row];
            case 6:
                return tree.behind(row);
            case 7:
                return lengthOf(tree.label[row]);
            default:
                return lengthOf(tree.text[row]);
        }
    }

    /** Labels and texts are words: at most eight signs, the first one in the lowest byte. */
    private static int signAt(long word, int k) {
        return (int) (word >>> (8 * k)) & 255;
    }

    private static int lengthOf(long word) {
        int length = 0;
        while (length < MOST_SIGNS && signAt(word, length) != 0) {
            length++;
        }
        return length;
    }

    private static boolean isLetter(int sign) {
        return sign >= 'a' && sign <= 'z';
    }

    private static boolean isTextSign(int sign) {
        return isLetter(sign) || sign >= '0' && sign <= '9';
    }

    private static int openerOf(int kind) {
        if (kind == BAG) {
            return '{';
        }
        return kind == KEYED ? '<' : '(';
    }

    private static int closerOf(int kind) {
        if (kind == BAG) {
            return '}';
        }
        return kind == KEYED ? '>' : ')';
    }

    /** The bytes that were fed and not used yet. */
    private static final class Tape {
        int length;
        private final int[] bytes = new int[MOST_TAPE];

        void append(int sign) {
            if (length < MOST_TAPE) {
                bytes[length] = sign;
                length++;
            }
        }

        /** -1 beyond the end, which is no byte, so that no reader has to ask for the end itself. */
        int signOn(int i) {
            return i >= 0 && i < length ? bytes[i] : -1;
        }

        int lettersFrom(int start) {
            int n = 0;
            while (n < MOST_LETTERS && isLetter(signOn(start + n))) {
                n++;
            }
            return n;
        }

        int textSignsFrom(int start) {
            int n = 0;
            while (n < MOST_SIGNS && isTextSign(signOn(start + n))) {
                n++;
            }
            return n;
        }

        long word(int start, int n) {
            long word = 0;
            for (int k = 0; k < n && k < MOST_SIGNS; k++) {
                word |= (signOn(start + k) & 255L) << (8 * k);
            }
            return word;
        }

        long asLabel() {
            int n = lettersFrom(0);
            return n > 0 && n == length ? word(0, n) : NO_WORD;
        }

        long asText() {
            int n = textSignsFrom(0);
            return n == length ? word(0, n) : NO_WORD;
        }
    }

    /**
     * A tree as rows AHEAD; without rows there is no tree. The depths alone tell its shape, so an
     * act only shifts rows and depths, and the spans are measured anew behind it.
     */
    private static final class Tree {
        int count;
        final int[] name = new int[MOST_NODES];
        final int[] kind = new int[MOST_NODES];
        final int[] depth = new int[MOST_NODES];
        final int[] span = new int[MOST_NODES];
        final long[] label = new long[MOST_NODES];
        final long[] text = new long[MOST_NODES];

        void become(Tree other) {
            copyRows(other, 0, 0, other.count);
            count = other.count;
            measure();
        }

        /** A row may be copied within one tree: both ranges may overlap. */
        private void copyRows(Tree other, int from, int to, int n) {
            if (from < 0 || to < 0 || n < 1 || n > MOST_NODES - from || n > MOST_NODES - to) {
                return;
            }
            System.arraycopy(other.name, from, name, to, n);
            System.arraycopy(other.kind, from, kind, to, n);
            System.arraycopy(other.depth, from, depth, to, n);
            System.arraycopy(other.label, from, label, to, n);
            System.arraycopy(other.text, from, text, to, n);
        }

        void measure() {
            for (int row = 0; row < count; row++) {
                int end = row + 1;
                while (end < count && depth[end] > depth[row]) {
                    end++;
                }
                span[row] = end - row;
            }
        }

        /** Rows come AHEAD, each with its depth; its other fields are set behind that. */
        int addRow(int rowDepth) {
            if (count >= MOST_NODES) {
                return NO_ROW;
            }
            depth[count] = rowDepth;
            count++;
            return count - 1;
        }

        void setRow(int row, int newName, int newKind, long newLabel) {
            name[row] = newName;
            kind[row] = newKind;
            label[row] = newLabel;
            text[row] = 0;
        }

        int rowOf(int wanted) {
            for (int row = 0; row < count; row++) {
                if (name[row] == wanted) {
                    return row;
                }
            }
            return NO_ROW;
        }

        int endOf(int row) {
            return row + span[row];
        }

        /** For a row that is known to lie within the other one's branch. */
        boolean isChild(int row, int above) {
            return depth[row] == depth[above] + 1;
        }

        int childrenOf(int row) {
            int children = 0;
            for (int c = row + 1; c < endOf(row); c++) {
                if (isChild(c, row)) {
                    children++;
                }
            }
            return children;
        }

        /** The end of the branch, where there is no child behind: a new last one would come there. */
        int childAfter(int row, int behind) {
            for (int c = behind + 1; c < endOf(row); c++) {
                if (isChild(c, row)) {
                    return c;
                }
            }
            return endOf(row);
        }

        private int childAt(int row, int k) {
            int child = childAfter(row, row);
            for (int passed = 0; passed < k && child < endOf(row); passed++) {
                child = childAfter(row, child);
            }
            return child;
        }

        int parentOf(int row) {
            for (int above = row - 1; above >= 0; above--) {
                if (depth[above] < depth[row]) {
                    return above;
                }
            }
            return NO_ROW;
        }

        /** AHEAD of a node stand its forebears, too; behind it all under it comes first. */
        int behind(int row) {
            return row - depth[row] + span[row] - 1;
        }

        boolean isTooDeep() {
            for (int row = 0; row < count; row++) {
                if (depth[row] > DEEPEST) {
                    return true;
                }
            }
            return false;
        }

        boolean hasTwins() {
            for (int row = 0; row < count; row++) {
                if (kind[row] == KEYED && hasTwinsUnder(row)) {
                    return true;
                }
            }
            return false;
        }

        private boolean hasTwinsUnder(int row) {
            for (int c = row + 1; c < endOf(row); c++) {
                if (isChild(c, row) && isLabelUnder(row, c + 1, endOf(row), label[c])) {
                    return true;
                }
            }
            return false;
        }

        boolean isLabelUnder(int row, int from, int end, long wanted) {
            for (int c = from; c < end; c++) {
                if (isChild(c, row) && label[c] == wanted) {
                    return true;
                }
            }
            return false;
        }

        private void shiftDepths(int from, int end, int by) {
            for (int row = from; row < end; row++) {
                depth[row] += by;
            }
        }

        /** Opens a row above n children; the tree must have fewer than the most nodes. */
        int wrap(int row, int from, int n) {
            int start = childAt(row, from);
            int end = childAt(row, from + n);
            copyRows(this, start, start + 1, count - start);
            count++;
            depth[start] = depth[row] + 1;
            shiftDepths(start + 1, end + 1, 1);
            measure();
            return start;
        }

        void dissolve(int row) {
            shiftDepths(row + 1, endOf(row), -1);
            copyRows(this, row + 1, row, count - row - 1);
            count--;
            measure();
        }

        void cutOut(int row) {
            int cut = span[row];
            copyRows(this, row + cut, row, count - row - cut);
            count -= cut;
            measure();
        }

        /** The other tree's branch must be one that was cut out here, so that it finds room. */
        void graft(Tree other, int row, int above, int from) {
            int start = childAt(above, from);
            int n = other.span[row];
            copyRows(this, start, start + n, count - start);
            copyRows(other, row, start, n);
            count += n;
            shiftDepths(start, start + n, depth[above] + 1 - other.depth[row]);
            measure();
        }
    }

    /** Reads the tape as a tree; where a step fails, at stands on WRONG. */
    private static final class Reader {
        private static final int DONE = -1;
        private static final int FAILED = -2;

        final Tape tape = new Tape();
        final Tree tree = new Tree();
        private final int[] path = new int[DEEPEST + 1];
        private int at;
        private boolean opened;

        /** Answers WRONG, or -1 for a tree. */
        int parse() {
            at = 0;
            tree.count = 0;
            int depth = 0;
            for (int nodes = 0; nodes <= MOST_NODES && depth >= 0; nodes++) {
                depth = readNode(depth) ? nextDepth(depth) : FAILED;
            }
            if (depth != DONE || at < tape.length) {
                return at;
            }
            tree.measure();
            return -1;
        }

        private boolean readNode(int depth) {
            if (depth > DEEPEST || tree.count == MOST_NODES) {
                return false;
            }
            int start = at;
            if (!passLabel()) {
                return false;
            }
            long label = tape.word(start, at - start);
            if (depth > 0 && isTwin(path[depth - 1], label)) {
                at = start;
                return false;
            }
            int row = tree.addRow(depth);
            path[depth] = row;
            tree.setRow(row, 0, BRANCH, label);
            if (!readText(row)) {
                return false;
            }
            readMark(row);
            return true;
        }

        private boolean isTwin(int above, long label) {
            return tree.kind[above] == KEYED
                    && tree.isLabelUnder(above, above + 1, tree.count, label);
        }

        private boolean passLabel() {
            int n = tape.lettersFrom(at);
            at += n;
            return n > 0 && !isLetter(tape.signOn(at));
        }

        private boolean readText(int row) {
            if (!pass('=')) {
                return true;
            }
            int n = tape.textSignsFrom(at);
            tree.text[row] = tape.word(at, n);
            at += n;
            return n > 0 && !isTextSign(tape.signOn(at));
        }

        private void readMark(int row) {
            opened = false;
            if (pass('!')) {
                tree.kind[row] = WHOLE;
            } else if (pass('(')) {
                opened = true;
            } else if (pass('{')) {
                tree.kind[row] = BAG;
                opened = !pass('}');
            } else if (pass('<')) {
                tree.kind[row] = KEYED;
                opened = !pass('>');
            }
        }

        private int nextDepth(int depth) {
            if (opened) {
                return depth + 1;
            }
            for (int d = depth; d > 0; d--) {
                if (pass(',')) {
                    return d;
                }
                if (!pass(closerOf(tree.kind[path[d - 1]]))) {
                    return FAILED;
                }
            }
            return DONE;
        }

        private boolean pass(int sign) {
            if (tape.signOn(at) != sign) {
                return false;
            }
            at++;
            return true;
        }
    }

    /** Writes a tree as short as can be, and keeps what was written last. */
    private static final class Writer {
        // A node has at most a label, =, a text, two brackets and a comma.
        private static final int MOST_BYTES = MOST_NODES * (MOST_LETTERS + 1 + MOST_SIGNS + 3);

        int length;
        final int[] bytes = new int[MOST_BYTES];
        private final int[] openKind = new int[DEEPEST + 1];

        void spell(Tree tree) {
            length = 0;
            for (int row = 0; row < tree.count; row++) {
                spellNode(tree, row);
                if (tree.span[row] == 1) {
                    leaveBranches(tree, row);
                }
            }
        }

        private void spellNode(Tree tree, int row) {
            int kind = tree.kind[row];
            addWord(tree.label[row]);
            if (tree.text[row] != 0) {
                add('=');
                addWord(tree.text[row]);
            }
            if (kind == WHOLE) {
                add('!');
            } else if (tree.span[row] > 1) {
                add(openerOf(kind));
                openKind[tree.depth[row]] = kind;
            } else if (kind != BRANCH) {
                add(openerOf(kind));
                add(closerOf(kind));
            }
        }

        private void leaveBranches(Tree tree, int row) {
            boolean last = row + 1 == tree.count;
            int nextDepth = last ? 0 : tree.depth[row + 1];
            for (int d = tree.depth[row]; d > nextDepth; d--) {
                add(closerOf(openKind[d - 1]));
            }
            if (!last) {
                add(',');
            }
        }

        private void addWord(long word) {
            for (int k = 0; k < lengthOf(word); k++) {
                add(signAt(word, k));
            }
        }

        private void add(int sign) {
            if (length < MOST_BYTES) {
                bytes[length] = sign;
                length++;
            }
        }
    }

    /** A tree's nodes BEHIND, counted from 1 on, so that 0 can stand for no node at all. */
    private static final class BehindOrder {
        int count;
        final int[] row = new int[MOST_NODES + 1];
        final int[] low = new int[MOST_NODES + 1];
        final boolean[] key = new boolean[MOST_NODES + 1];

        void arrange(Tree tree) {
            count = tree.count;
            for (int r = 0; r < count; r++) {
                int number = tree.behind(r) + 1;
                row[number] = r;
                low[number] = number - tree.span[r] + 1;
                // A first child's forests are told along with its parent's.
                key[number] = r == 0 || !tree.isChild(r, r - 1);
            }
        }
    }

    /**
     * Least costs by the way of Zhang and Shasha: forest[a][b] is that of the nodes BEHIND up to a
     * and b, from the first ones under the branches in hand on; under[a][b] that of all under a
     * and b.
     */
    private static final class Aligner {
        // More than all nodes of two trees can cost, so that no least cost ever has it.
        private static final int FORBIDDEN = 1000000;

        final BehindOrder first = new BehindOrder();
        final BehindOrder second = new BehindOrder();
        final int[] pairFirst = new int[MOST_NODES];
        final int[] pairSecond = new int[MOST_NODES];
        int pairCount;
        private final int[][] forest = new int[MOST_NODES + 1][MOST_NODES + 1];
        private final int[][] under = new int[MOST_NODES + 1][MOST_NODES + 1];
        private final int[][] pairing = new int[MOST_NODES + 1][MOST_NODES + 1];
        private int takePrice;
        private int putPrice;

        int align(Tree p, Tree q, int[] prices) {
            first.arrange(p);
            second.arrange(q);
            takePrice = prices[TAKE];
            putPrice = prices[PUT];
            pricePairs(p, q, prices);
            for (int a = 1; a <= first.count; a++) {
                for (int b = 1; b <= second.count; b++) {
                    if (first.key[a] && second.key[b]) {
                        fillForests(a, b);
                    }
                }
            }
            return forest[first.count][second.count];
        }

        private void pricePairs(Tree p, Tree q, int[] prices) {
            for (int a = 1; a <= first.count; a++) {
                for (int b = 1; b <= second.count; b++) {
                    pairing[a][b] = pairPrice(p, first.row[a], q, second.row[b], prices);
                }
            }
        }

        private static int pairPrice(Tree p, int i, Tree q, int j, int[] prices) {
            boolean labelsDiffer = p.label[i] != q.label[j];
            boolean textsDiffer = p.text[i] != q.text[j];
            if (p.kind[i] != q.kind[j]) {
                return FORBIDDEN;
            }
            if (p.kind[i] == WHOLE && (labelsDiffer || textsDiffer)) {
                return FORBIDDEN;
            }
            return (labelsDiffer ? prices[RELABEL] : 0) + (textsDiffer ? prices[RETEXT] : 0);
        }

        private void fillForests(int x, int y) {
            int noneFirst = first.low[x] - 1;
            int noneSecond = second.low[y] - 1;
            forest[noneFirst][noneSecond] = 0;
            for (int b = noneSecond + 1; b <= y; b++) {
                forest[noneFirst][b] = forest[noneFirst][b - 1] + putPrice;
            }
            for (int a = noneFirst + 1; a <= x; a++) {
                forest[a][noneSecond] = forest[a - 1][noneSecond] + takePrice;
                if (first.low[a] == first.low[x]) {
                    keepUnder(a, y, noneSecond);
                }
                fillLine(a, y, noneSecond);
            }
        }

        /** Where both forests end under a and b, their cost is that of all under a and b. */
        private void keepUnder(int a, int y, int noneSecond) {
            for (int b = noneSecond + 1; b <= y; b++) {
                if (second.low[b] == second.low[y]) {
                    under[a][b] = forest[a - 1][b - 1];
                }
            }
        }

        private void fillLine(int a, int y, int noneSecond) {
            // Rows in hand: this is by far the dearest loop of all.
            int[] line = forest[a];
            int[] before = forest[a - 1];
            int[] leftOfFirst = forest[first.low[a] - 1];
            int[] underFirst = under[a];
            int[] pairingFirst = pairing[a];
            int[] low = second.low;
            for (int b = noneSecond + 1; b <= y; b++) {
                int paired = leftOfFirst[low[b] - 1] + underFirst[b] + pairingFirst[b];
                int unpaired = Math.min(before[b] + takePrice, line[b - 1] + putPrice);
                line[b] = Math.min(paired, unpaired);
            }
        }

        private int costOfPairing(int a, int b) {
            return forest[first.low[a] - 1][second.low[b] - 1] + under[a][b] + pairing[a][b];
        }

        /**
         * A pair parts what is under it from what is left of it, and neither has a say in the
         * other's least cost: so each pair's own forests may be gone over later, by themselves.
         */
        void choosePairs() {
            pairCount = 0;
            walkBack(first.count, second.count, 0, 0);
            for (int k = 0; k < pairCount && k < MOST_NODES; k++) {
                int x = pairFirst[k];
                int y = pairSecond[k];
                if (first.low[x] < x && second.low[y] < y) {
                    fillForests(x, y);
                    walkBack(x - 1, y - 1, first.low[x] - 1, second.low[y] - 1);
                }
            }
        }

        private void walkBack(int x, int y, int noneFirst, int noneSecond) {
            int a = x;
            int b = y;
            for (int step = 0; step < 2 * MOST_NODES && a > noneFirst && b > noneSecond; step++) {
                if (costOfPairing(a, b) == forest[a][b]) {
                    addPair(a, b);
                    a = first.low[a] - 1;
                    b = second.low[b] - 1;
                } else if (forest[a - 1][b] + takePrice == forest[a][b]) {
                    a--;
                } else {
                    b--;
                }
            }
        }

        private void addPair(int a, int b) {
            if (pairCount < MOST_NODES) {
                pairFirst[pairCount] = a;
                pairSecond[pairCount] = b;
                pairCount++;
            }
        }
    }

    /** Pairs and acts of the latest map(), by name: the trees may change behind it. */
    private static final class Mending {
        private static final int MOST_ACTS = 2 * MOST_NODES;

        int nodes;
        int pairCount;
        final int[] firstName = new int[MOST_NODES];
        final int[] secondName = new int[MOST_NODES];
        int actCount;
        final int[] actKind = new int[MOST_ACTS];
        final int[] actName = new int[MOST_ACTS];
        final int[] actPrice = new int[MOST_ACTS];
        private final int[] partner = new int[MOST_NODES];
        private final boolean[] isPartner = new boolean[MOST_NODES];

        void plan(Tree p, Tree q, Aligner aligner, int[] prices) {
            nodes = p.count + q.count;
            pairCount = 0;
            actCount = 0;
            matchRows(aligner);
            takeLonely(p, prices[TAKE]);
            mendPairs(p, q, prices);
            putLonely(q, aligner.second, prices[PUT]);
        }

        private void matchRows(Aligner aligner) {
            for (int row = 0; row < MOST_NODES; row++) {
                partner[row] = NO_ROW;
                isPartner[row] = false;
            }
            for (int k = 0; k < aligner.pairCount; k++) {
                int other = aligner.second.row[aligner.pairSecond[k]];
                partner[aligner.first.row[aligner.pairFirst[k]]] = other;
                isPartner[other] = true;
            }
        }

        private void takeLonely(Tree p, int price) {
            for (int row = 0; row < p.count; row++) {
                if (partner[row] == NO_ROW) {
                    addAct(TAKE, p.name[row], price);
                }
            }
        }

        private void mendPairs(Tree p, Tree q, int[] prices) {
            for (int row = 0; row < p.count; row++) {
                int other = partner[row];
                if (other == NO_ROW) {
                    continue;
                }
                firstName[pairCount] = p.name[row];
                secondName[pairCount] = q.name[other];
                pairCount++;
                if (p.label[row] != q.label[other]) {
                    addAct(RELABEL, p.name[row], prices[RELABEL]);
                }
                if (p.text[row] != q.text[other]) {
                    addAct(RETEXT, p.name[row], prices[RETEXT]);
                }
            }
        }

        private void putLonely(Tree q, BehindOrder order, int price) {
            for (int number = 1; number <= order.count; number++) {
                int row = order.row[number];
                if (!isPartner[row]) {
                    addAct(PUT, q.name[row], price);
                }
            }
        }

        private void addAct(int kind, int name, int price) {
            if (actCount < MOST_ACTS) {
                actKind[actCount] = kind;
                actName[actCount] = name;
                actPrice[actCount] = price;
                actCount++;
            }
        }
    }

    /** Puts branches that are the SAME into one group; groups last till they are forgotten. */
    private static final class Kinship {
        private static final int MOST_GROUPS = 2 * MOST_NODES;

        int groups;
        final int[] groupOf = new int[MOST_NODES];
        private final int[] kind = new int[MOST_GROUPS];
        private final long[] label = new long[MOST_GROUPS];
        private final long[] text = new long[MOST_GROUPS];
        private final int[] kidsStart = new int[MOST_GROUPS];
        private final int[] kidsCount = new int[MOST_GROUPS];
        private final int[] kids = new int[MOST_GROUPS];
        private int kidsUsed;

        void forget() {
            groups = 0;
            kidsUsed = 0;
        }

        void groupAll(Tree tree) {
            // Children have higher rows than their parent: going down, theirs are known first.
            for (int row = tree.count - 1; row >= 0; row--) {
                groupOf[row] = groupFor(tree, row);
            }
        }

        private int groupFor(Tree tree, int row) {
            int n = gatherKids(tree, row);
            for (int group = 0; group < groups; group++) {
                if (isOf(group, tree, row, n)) {
                    return group;
                }
            }
            if (groups >= MOST_GROUPS) {
                return NO_ROW;
            }
            kind[groups] = tree.kind[row];
            label[groups] = tree.label[row];
            text[groups] = tree.text[row];
            kidsStart[groups] = kidsUsed;
            kidsCount[groups] = n;
            kidsUsed += n;
            groups++;
            return groups - 1;
        }

        /** Lays the children's groups behind the kids in use; they stay only with a new group. */
        private int gatherKids(Tree tree, int row) {
            int n = 0;
            for (int c = row + 1; c < tree.endOf(row); c++) {
                if (tree.isChild(c, row) && kidsUsed + n < MOST_GROUPS) {
                    kids[kidsUsed + n] = groupOf[c];
                    n++;
                    if (tree.kind[row] != BRANCH) {
                        sinkLastKid(n);
                    }
                }
            }
            return n;
        }

        /** Rising groups make two bags alike, whatever the order of their children. */
        private void sinkLastKid(int n) {
            for (int k = kidsUsed + n - 1; k > kidsUsed && kids[k - 1] > kids[k]; k--) {
                int higher = kids[k - 1];
                kids[k - 1] = kids[k];
                kids[k] = higher;
            }
        }

        private boolean isOf(int group, Tree tree, int row, int n) {
            if (kind[group] != tree.kind[row] || label[group] != tree.label[row]) {
                return false;
            }
            if (text[group] != tree.text[row] || kidsCount[group] != n) {
                return false;
            }
            for (int k = 0; k < n; k++) {
                if (kids[kidsStart[group] + k] != kids[kidsUsed + k]) {
                    return false;
                }
            }
            return true;
        }
    }

    /** Lays two hands' changes of one tree together, and keeps what clashed. */
    private static final class Merger {
        private static final int NO_NAME = -1;
        private static final int MOST_CLASHES = 1 + (LIST + 1) * MOST_NODES;

        final Tree made = new Tree();
        int clashCount;
        final int[] clashName = new int[MOST_CLASHES];
        final int[] clashWhat = new int[MOST_CLASHES];
        private Tree original = made;
        private Tree left = made;
        private Tree right = made;
        private final int[] common = new int[MOST_NODES];

        void layTogether(Tree o, Tree l, Tree r) {
            original = o;
            left = l;
            right = r;
            clashCount = 0;
            made.count = 0;
            if (l.name[0] != o.name[0] || r.name[0] != o.name[0]) {
                addClash(NO_NAME, ROOTS);
                return;
            }
            boolean whole = comeTo(o.name[0], 0);
            made.measure();
            if (!whole || made.hasTwins()) {
                made.count = 0;
                addClash(NO_NAME, ALL_LISTS);
            }
            tellClashes();
        }

        /** False as soon as there can be no tree. */
        private boolean comeTo(int name, int depth) {
            int o = original.rowOf(name);
            int l = left.rowOf(name);
            int r = right.rowOf(name);
            if (depth > DEEPEST || l == NO_ROW && r == NO_ROW || made.rowOf(name) != NO_ROW) {
                return false;
            }
            int row = made.addRow(depth);
            if (row == NO_ROW) {
                return false;
            }
            int kind = (int) settledField(KIND_FIELD, o, l, r);
            made.setRow(row, name, kind, settledField(LABEL_FIELD, o, l, r));
            made.text[row] = settledField(TEXT_FIELD, o, l, r);
            Tree source = settledList(o, l, r);
            int sourceRow = source.rowOf(name);
            if (sourceRow == NO_ROW || kind == WHOLE && source.span[sourceRow] > 1) {
                return false;
            }
            return comeToChildren(source, sourceRow, depth + 1);
        }

        private boolean comeToChildren(Tree source, int row, int depth) {
            for (int c = row + 1; c < source.endOf(row); c++) {
                if (source.isChild(c, row) && !comeTo(source.name[c], depth)) {
                    return false;
                }
            }
            return true;
        }

        private long settledField(int what, int o, int l, int r) {
            long ours = fieldOf(left, l, what);
            long theirs = fieldOf(right, r, what);
            if (l == NO_ROW) {
                return theirs;
            }
            if (r == NO_ROW || o == NO_ROW || ours == theirs) {
                return ours;
            }
            long was = fieldOf(original, o, what);
            if (ours == was) {
                return theirs;
            }
            return theirs == was ? ours : was;
        }

        /** The tree whose list the node has. */
        private Tree settledList(int o, int l, int r) {
            if (l == NO_ROW) {
                return right;
            }
            if (r == NO_ROW || o == NO_ROW || isSameList(left, l, right, r)) {
                return left;
            }
            if (isSameList(left, l, original, o)) {
                return right;
            }
            return isSameList(right, r, original, o) ? left : original;
        }

        /** What a tree hasn't is unlike all that trees have: no field is below 0. */
        private static long fieldOf(Tree tree, int row, int what) {
            if (row == NO_ROW) {
                return NO_WORD;
            }
            if (what == LABEL_FIELD) {
                return tree.label[row];
            }
            return what == TEXT_FIELD ? tree.text[row] : tree.kind[row];
        }

        private static boolean isSameList(Tree one, int i, Tree other, int j) {
            if (i == NO_ROW || j == NO_ROW) {
                return false;
            }
            int c = one.childAfter(i, i);
            int d = other.childAfter(j, j);
            for (int k = 0; k < MOST_NODES && c < one.endOf(i) && d < other.endOf(j); k++) {
                if (one.name[c] != other.name[d]) {
                    return false;
                }
                c = one.childAfter(i, c);
                d = other.childAfter(j, d);
            }
            return c == one.endOf(i) && d == other.endOf(j);
        }

        private void tellClashes() {
            int n = gatherCommon();
            for (int k = 0; k < n; k++) {
                tellClashesOf(common[k]);
            }
        }

        /** Names that both hands have, rising. */
        private int gatherCommon() {
            int n = 0;
            for (int row = 0; row < left.count; row++) {
                int name = left.name[row];
                if (right.rowOf(name) != NO_ROW) {
                    int k = n;
                    for (; k > 0 && common[k - 1] > name; k--) {
                        common[k] = common[k - 1];
                    }
                    common[k] = name;
                    n++;
                }
            }
            return n;
        }

        private void tellClashesOf(int name) {
            int o = original.rowOf(name);
            int l = left.rowOf(name);
            int r = right.rowOf(name);
            for (int what = KIND_FIELD; what <= TEXT_FIELD; what++) {
                long was = fieldOf(original, o, what);
                long ours = fieldOf(left, l, what);
                long theirs = fieldOf(right, r, what);
                if (ours != theirs && ours != was && theirs != was) {
                    addClash(name, what);
                }
            }
            if (!isSameList(left, l, right, r) && !isSameList(left, l, original, o)
                    && !isSameList(right, r, original, o)) {
                addClash(name, LIST);
            }
        }

        private void addClash(int name, int what) {
            if (clashCount < MOST_CLASHES) {
                clashName[clashCount] = name;
                clashWhat[clashCount] = what;
                clashCount++;
            }
        }
    }
}
