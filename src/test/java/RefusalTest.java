import java.util.ArrayList;
import java.util.HashMap;
import java.util.List;
import java.util.Map;

/**
 * Each call that is refused: what it answers, that of two findings it tells the one that is asked first, and that it
 * changes nothing but what found() tells. All that can be asked of an object is asked of one that was refused and of a
 * twin that wasn't; each question has twins of its own, because some questions change what they ask of.
 */
public final class RefusalTest {
    private interface Call {
        int on(BranchMender mender);
    }

    private interface PlaceCall {
        int on(BranchMender mender, int p);
    }

    private interface Question {
        String ask(BranchMender mender);
    }

    private static final int[] BEYOND_PLACES = {-1, 8, Bench.MIN, Bench.MAX};
    private static final int EMPTY = 7;
    private static final int NEXT_NAME = 63;
    private static final String TAPE = "tape";
    private static final List<Question> QUESTIONS = new ArrayList<>();
    private static final Map<String, List<String>> TWINS = new HashMap<>();

    private static boolean filled = true;
    private static int refusals = 0;

    private RefusalTest() {
    }

    public static void main(String[] args) {
        listQuestions();
        onANewObject();
        feeds();
        reads();
        placesBeyond();
        treesBeyondOrNothing();
        nodesNone();
        nodeAndPrices();
        relabels();
        retexts();
        puts();
        putsFullOrKey();
        takes();
        moves();
        movesFullOrKey();
        secondTrees();
        rows();
        merges();
        founds();
        Bench.due("many refusals", refusals > 250, true);
        Bench.end("refusals, " + refusals);
    }

    // ---- the twins

    /** Trees at all places but the last, and something of all that an object keeps; its next name is 63. */
    private static BranchMender scene(String tape) {
        BranchMender mender = new BranchMender();
        if (filled) {
            Bench.read(mender, 0, "r(a(x,y),b=1{},k<p,q>,w!)");
            mender.copy(0, 1);
            mender.copy(0, 2);
            Bench.relabel(mender, 1, 1, "l");
            Bench.relabel(mender, 2, 1, "m");
            mender.merge(0, 1, 2, 3);
            Bench.read(mender, 4, "a(".repeat(10) + "a<a>" + ")".repeat(9) + ",a(c))");
            Bench.read(mender, 5, Bench.flat(30));
            Bench.read(mender, 6, "k<a(b,c(c)),b,w!,d(e,e)>");
            mender.price(1, 7);
            mender.price(2, 5);
            mender.map(0, 6);
            mender.write(6);
            mender.size(EMPTY);
            mender.take(0, 0);
            mender.found(0);
        }
        Bench.feed(mender, tape);
        return mender;
    }

    private static void listQuestions() {
        QUESTIONS.add(RefusalTest::letters);
        for (int p = 0; p < 8; p++) {
            int place = p;
            QUESTIONS.add(mender -> place + ": " + Bench.written(mender, place) + " " + Bench.names(mender, place));
        }
        QUESTIONS.add(mender -> Bench.pairs(mender) + "/" + Bench.acts(mender) + "/" + mender.acts() + "/" + mender.like());
        QUESTIONS.add(mender -> Bench.clashes(mender) + "/" + mender.merged());
        QUESTIONS.add(RefusalTest::prices);
        QUESTIONS.add(mender -> mender.feed('s', 1) + "/" + mender.relabel(0, 0) + "/" + Bench.written(mender, 0));
        QUESTIONS.add(mender -> mender.feed('s', 1) + "/" + mender.read(7) + "/" + Bench.written(mender, 7));
        QUESTIONS.add(mender -> mender.read(7) + "/" + Bench.read(mender, 7, "n") + "/" + mender.node(7, 0, 0));
    }

    private static String letters(BranchMender mender) {
        StringBuilder letters = new StringBuilder();
        for (int i = 0; i < 40; i++) {
            letters.append(mender.letter(i)).append(' ');
        }
        return letters.toString();
    }

    private static String prices(BranchMender mender) {
        StringBuilder prices = new StringBuilder();
        for (int act = 0; act < 4; act++) {
            prices.append(mender.price(act, 0)).append(' ');
        }
        return prices.toString();
    }

    private static List<String> answersOf(String tape) {
        return TWINS.computeIfAbsent(filled + tape, key -> {
            List<String> answers = new ArrayList<>();
            for (Question question : QUESTIONS) {
                answers.add(question.ask(scene(tape)));
            }
            return answers;
        });
    }

    // ---- what is due of a refusal

    private static void dueRefusal(String what, String tapeBefore, String tapeAfter, int finding, Call call) {
        refusals++;
        BranchMender counted = scene(tapeBefore);
        BranchMender twin = scene(tapeAfter);
        Bench.due(what, call.on(counted), finding);
        int number = finding <= -10 ? -9 : finding;
        for (int other = -9; other < 0; other++) {
            if (other != -8) {
                int due = twin.found(other) + (other == number ? 1 : 0);
                Bench.due(what + ", found of " + other, counted.found(other), due);
            }
        }
        List<String> due = answersOf(tapeAfter);
        for (int k = 0; k < due.size(); k++) {
            BranchMender refused = scene(tapeBefore);
            call.on(refused);
            Bench.due(what + ", question " + k, QUESTIONS.get(k).ask(refused), due.get(k));
        }
    }

    private static void dueRefused(String what, int finding, Call call) {
        dueRefusal(what, TAPE, TAPE, finding, call);
    }

    /** Of an act that is refused behind Node of p: the tape is empty then. */
    private static void dueUsed(String what, String tape, int finding, Call call) {
        dueRefusal(what, tape, "", finding, call);
    }

    // ---- the refusals

    private static void onANewObject() {
        Bench.sentence("No trees .. NOTHING if no tree is there .. NONE: there was none");
        filled = false;
        dueRefused("write", Bench.NOTHING, m -> m.write(0));
        dueRefused("copy", Bench.NOTHING, m -> m.copy(0, 1));
        dueRefused("node", Bench.NOTHING, m -> m.node(0, 0, 0));
        dueRefused("size", Bench.NOTHING, m -> m.size(7));
        dueRefused("relabel", Bench.NOTHING, m -> m.relabel(0, 0));
        dueRefused("retext", Bench.NOTHING, m -> m.retext(0, 0));
        dueRefused("put", Bench.NOTHING, m -> m.put(0, 0, 0, 0, 0));
        dueRefused("take", Bench.NOTHING, m -> m.take(0, 0));
        dueRefused("move", Bench.NOTHING, m -> m.move(0, 0, 0, 0));
        dueRefused("distance", Bench.NOTHING, m -> m.distance(0, 0));
        dueRefused("map", Bench.NOTHING, m -> m.map(0, 0));
        dueRefused("pair", Bench.NONE, m -> m.pair(0, 0));
        dueRefused("act", Bench.NONE, m -> m.act(0, 0));
        dueRefused("like", Bench.NONE, BranchMender::like);
        dueRefused("same", Bench.NOTHING, m -> m.same(0, 0));
        dueRefused("unlike", Bench.NOTHING, m -> m.unlike(0));
        dueRefused("shared", Bench.NOTHING, m -> m.shared(0, 0));
        dueRefused("merge", Bench.NOTHING, m -> m.merge(0, 0, 0, 0));
        dueRefused("clash", Bench.NONE, m -> m.clash(0, 0));
        dueRefusal("read of an empty tape", "", "", -10, m -> m.read(0));
        filled = true;
    }

    private static void feeds() {
        Bench.sentence("BEYOND: n isn't 1 .. 8. FULL: there would be more than 400.");
        int[] beyond = {0, -1, 9, Bench.MIN, Bench.MAX};
        String full = "a".repeat(400);
        String nearly = "a".repeat(393);
        for (int n : beyond) {
            dueRefused("feed of " + n, Bench.BEYOND, m -> m.feed('z', n));
            dueRefusal("BEYOND ahead of FULL", full, full, Bench.BEYOND, m -> m.feed('z', n));
        }
        for (int n = 1; n <= 8; n++) {
            int bytes = n;
            dueRefusal("feed to a full tape", full, full, Bench.FULL, m -> m.feed('z', bytes));
        }
        dueRefusal("feed of one too many", nearly, nearly, Bench.FULL, m -> m.feed('z', 8));
    }

    private static void reads() {
        Bench.sentence("-10 less WRONG .. (read() also empties the tape)");
        String[] tapes = {"", "A", "a(", "a(b", "abcdefg", "a=123456789", "a<b,b>", Bench.chain(13), Bench.flat(31)};
        int[] wrongs = {0, 0, 2, 3, 6, 10, 4, 24, 60};
        for (int k = 0; k < tapes.length; k++) {
            dueUsed("read of " + tapes[k], tapes[k], -10 - wrongs[k], m -> m.read(0));
            dueUsed("read to an empty place", tapes[k], -10 - wrongs[k], m -> m.read(EMPTY));
            String tape = tapes[k];
            dueRefusal("BEYOND ahead of WRONG", tape, tape, Bench.BEYOND, m -> m.read(8));
        }
    }

    private static void placesBeyond() {
        Bench.sentence("BEYOND: p isn't 0 .. 7 .. BEYOND: q isn't 0 .. 7 .. BEYOND: to isn't 0 .. 7");
        for (int p : BEYOND_PLACES) {
            dueRefused("read to " + p, Bench.BEYOND, m -> m.read(p));
            dueRefused("clear of " + p, Bench.BEYOND, m -> m.clear(p));
            dueRefused("copy to " + p, Bench.BEYOND, m -> m.copy(0, p));
            dueRefused("merge to " + p, Bench.BEYOND, m -> m.merge(0, 1, 2, p));
        }
    }

    private static void treesBeyondOrNothing() {
        Bench.sentence("\"Tree p\": BEYOND if p isn't 0 .. 7, NOTHING if no tree is there.");
        dueTree("write", BranchMender::write);
        dueTree("copy", (m, p) -> m.copy(p, 99));
        dueTree("node", (m, p) -> m.node(p, 99, 99));
        dueTree("size", BranchMender::size);
        dueTree("relabel", (m, p) -> m.relabel(p, 99));
        dueTree("retext", (m, p) -> m.retext(p, 99));
        dueTree("put", (m, p) -> m.put(p, 99, 9, -1, -1));
        dueTree("take", (m, p) -> m.take(p, 99));
        dueTree("move", (m, p) -> m.move(p, 99, 99, -1));
        dueTree("distance", (m, p) -> m.distance(p, 0));
        dueTree("distance to", (m, p) -> m.distance(0, p));
        dueTree("map", (m, p) -> m.map(p, 0));
        dueTree("map to", (m, p) -> m.map(0, p));
        dueTree("same", (m, p) -> m.same(p, 0));
        dueTree("same as", (m, p) -> m.same(0, p));
        dueTree("unlike", BranchMender::unlike);
        dueTree("shared", (m, p) -> m.shared(p, 0));
        dueTree("shared with", (m, p) -> m.shared(0, p));
        dueTree("merge from", (m, p) -> m.merge(p, 1, 2, 3));
        dueTree("merge of a left", (m, p) -> m.merge(0, p, 2, 3));
        dueTree("merge of a right", (m, p) -> m.merge(0, 1, p, 3));
    }

    private static void dueTree(String what, PlaceCall call) {
        for (int p : BEYOND_PLACES) {
            dueRefused(what + " " + p, Bench.BEYOND, m -> call.on(m, p));
        }
        dueRefused(what + " where no tree is", Bench.NOTHING, m -> call.on(m, EMPTY));
    }

    private static void nodesNone() {
        Bench.sentence("\"Node of p\": NONE if tree p has no node of that name.");
        int[] names = {-1, 9, NEXT_NAME, Bench.MIN, Bench.MAX};
        for (int name : names) {
            dueRefused("relabel of " + name, Bench.NONE, m -> m.relabel(0, name));
            dueRefused("retext of " + name, Bench.NONE, m -> m.retext(0, name));
            dueRefused("put under " + name, Bench.NONE, m -> m.put(0, name, 9, -1, -1));
            dueRefused("take of " + name, Bench.NONE, m -> m.take(0, name));
            dueRefused("move of " + name, Bench.NONE, m -> m.move(0, name, 99, -1));
            dueRefused("move to " + name, Bench.NONE, m -> m.move(0, 1, name, -1));
        }
        String[] tapes = {"", "A", "a".repeat(9)};
        for (String tape : tapes) {
            dueRefusal("NONE ahead of KIND, relabel", tape, tape, Bench.NONE, m -> m.relabel(0, 99));
            dueRefusal("NONE ahead of KIND, retext", tape, tape, Bench.NONE, m -> m.retext(0, 99));
            dueRefusal("NONE ahead of KIND, put", tape, tape, Bench.NONE, m -> m.put(0, 99, 0, 0, 0));
        }
    }

    private static void nodeAndPrices() {
        Bench.sentence("BEYOND: there is no such node, or another what.");
        int[] wrongs = {-1, 9, Bench.MIN, Bench.MAX};
        for (int wrong : wrongs) {
            dueRefused("node " + wrong, Bench.BEYOND, m -> m.node(0, wrong, 0));
            dueRefused("node's " + wrong, Bench.BEYOND, m -> m.node(0, 0, wrong));
        }
        Bench.sentence("BEYOND: another act, or v isn't 0 .. 1000.");
        int[] acts = {-1, 4, Bench.MIN, Bench.MAX};
        int[] prices = {-1, 1001, Bench.MIN, Bench.MAX};
        for (int k = 0; k < 4; k++) {
            int act = acts[k];
            int v = prices[k];
            dueRefused("price of act " + act, Bench.BEYOND, m -> m.price(act, 9));
            for (int known = 0; known < 4; known++) {
                int of = known;
                dueRefused("price " + v, Bench.BEYOND, m -> m.price(of, v));
            }
        }
    }

    private static void relabels() {
        Bench.sentence("KIND: the tape is no label. KEY: its parent is KEYED, and another child has it.");
        String[] tapes = {"", "A", "a1", "abcdefg", "a".repeat(400), "\0"};
        for (String tape : tapes) {
            dueUsed("relabel", tape, Bench.KIND, m -> m.relabel(0, 1));
        }
        dueUsed("relabel in a KEYED", "q", Bench.KEY, m -> m.relabel(0, 6));
        dueUsed("relabel in a KEYED", "p", Bench.KEY, m -> m.relabel(0, 7));
        dueUsed("relabel in a KEYED root", "w", Bench.KEY, m -> m.relabel(6, 54));
    }

    private static void retexts() {
        Bench.sentence("KIND: it is no text (none, eight signs at most).");
        String[] tapes = {"A", "a=", "123456789", "1".repeat(400), "\0"};
        for (String tape : tapes) {
            dueUsed("retext", tape, Bench.KIND, m -> m.retext(0, 4));
        }
    }

    private static void puts() {
        Bench.sentence("KIND: kind isn't 0 .. 2, the node is a WHOLE, or the tape is no label.");
        int[] kinds = {-1, 3, Bench.MIN, Bench.MAX};
        for (int kind : kinds) {
            dueUsed("put of kind " + kind, TAPE, Bench.KIND, m -> m.put(0, 0, kind, 0, 0));
        }
        dueUsed("put under a WHOLE", TAPE, Bench.KIND, m -> m.put(0, 8, 0, 0, 0));
        String[] tapes = {"", "A", "abcdefg", "a1"};
        for (String tape : tapes) {
            dueUsed("put by " + tape, tape, Bench.KIND, m -> m.put(0, 0, 0, 0, 0));
            dueUsed("KIND ahead of BEYOND", tape, Bench.KIND, m -> m.put(0, 0, 0, -1, -1));
            dueUsed("KIND ahead of FULL", tape, Bench.KIND, m -> m.put(5, 23, 0, 0, 0));
        }
        Bench.sentence("BEYOND: from or n is below 0, or there are not so many children.");
        int[][] beyond = {{-1, 0}, {0, -1}, {0, 5}, {5, 0}, {4, 1}, {Bench.MAX, Bench.MAX}, {1, Bench.MAX}, {Bench.MIN, Bench.MIN}};
        for (int[] pair : beyond) {
            dueUsed("put at " + pair[0] + ", " + pair[1], TAPE, Bench.BEYOND, m -> m.put(0, 0, 0, pair[0], pair[1]));
        }
        dueUsed("KIND of a WHOLE ahead of BEYOND", TAPE, Bench.KIND, m -> m.put(0, 8, 0, 1, 0));
        dueUsed("KIND of kind ahead of BEYOND", TAPE, Bench.KIND, m -> m.put(0, 0, 3, 9, 9));
        dueUsed("BEYOND ahead of FULL of nodes", TAPE, Bench.BEYOND, m -> m.put(5, 23, 0, 0, 30));
        dueUsed("BEYOND ahead of FULL of depth", TAPE, Bench.BEYOND, m -> m.put(4, 20, 0, 1, 0));
        dueUsed("BEYOND ahead of KEY", "b", Bench.BEYOND, m -> m.put(6, 53, 0, 5, 0));
    }

    private static void putsFullOrKey() {
        Bench.sentence("FULL: there are 30 nodes, or one would be 12 deep under the root.");
        dueUsed("a 31st node", TAPE, Bench.FULL, m -> m.put(5, 23, 0, 0, 0));
        dueUsed("a 31st node, over all", TAPE, Bench.FULL, m -> m.put(5, 23, 0, 0, 29));
        dueUsed("FULL ahead of KEY", TAPE, Bench.FULL, m -> m.put(5, 23, 2, 0, 29));
        dueUsed("12 deep itself", TAPE, Bench.FULL, m -> m.put(4, 20, 0, 0, 0));
        dueUsed("12 deep what is under it", TAPE, Bench.FULL, m -> m.put(4, 9, 0, 0, 1));
        Bench.sentence("KEY: two children of a KEYED would have one label.");
        dueUsed("with a child", "p", Bench.KEY, m -> m.put(0, 5, 0, 0, 0));
        dueUsed("with the last child", "q", Bench.KEY, m -> m.put(0, 5, 0, 0, 1));
        dueUsed("of those it takes", "k", Bench.KEY, m -> m.put(6, 60, 2, 0, 2));
    }

    private static void takes() {
        Bench.sentence("ROOT: it is the root. KEY: two children of a KEYED would have one label.");
        dueRefused("take of the root", Bench.ROOT, m -> m.take(0, 0));
        dueRefused("take of a KEYED root", Bench.ROOT, m -> m.take(6, 53));
        dueRefused("take, a child with another", Bench.KEY, m -> m.take(6, 54));
        dueRefused("take, two children", Bench.KEY, m -> m.take(6, 60));
    }

    private static void moves() {
        Bench.sentence("ROOT: it is the root. Node of p, of the parent: NONE.");
        dueRefused("move of the root", Bench.ROOT, m -> m.move(0, 0, 5, 0));
        dueRefused("ROOT ahead of NONE", Bench.ROOT, m -> m.move(0, 0, 99, -1));
        dueRefused("ROOT ahead of KIND", Bench.ROOT, m -> m.move(0, 0, 8, -1));
        dueRefused("to no node", Bench.NONE, m -> m.move(0, 1, 99, 0));
        dueRefused("NONE ahead of BEYOND", Bench.NONE, m -> m.move(0, 1, -1, -1));
        Bench.sentence("KIND: that is a WHOLE. ROOT: that is the node or under it.");
        dueRefused("to a WHOLE", Bench.KIND, m -> m.move(0, 1, 8, 0));
        dueRefused("KIND ahead of ROOT", Bench.KIND, m -> m.move(0, 8, 8, 0));
        dueRefused("KIND ahead of BEYOND", Bench.KIND, m -> m.move(0, 1, 8, -1));
        dueRefused("to itself", Bench.ROOT, m -> m.move(0, 1, 1, 0));
        dueRefused("to its first child", Bench.ROOT, m -> m.move(0, 1, 2, 0));
        dueRefused("to its last child", Bench.ROOT, m -> m.move(0, 1, 3, 0));
        dueRefused("to its deepest", Bench.ROOT, m -> m.move(4, 10, 20, 0));
        dueRefused("ROOT ahead of BEYOND", Bench.ROOT, m -> m.move(0, 1, 2, -1));
    }

    private static void movesFullOrKey() {
        Bench.sentence("BEYOND: from is below 0, or above how many children it has then.");
        int[] beyond = {-1, 3, Bench.MIN, Bench.MAX};
        for (int from : beyond) {
            dueRefused("move to " + from, Bench.BEYOND, m -> m.move(0, 4, 5, from));
        }
        dueRefused("one less when it is gone", Bench.BEYOND, m -> m.move(0, 8, 0, 4));
        dueRefused("none left when it is gone", Bench.BEYOND, m -> m.move(4, 15, 14, 1));
        dueRefused("BEYOND ahead of FULL", Bench.BEYOND, m -> m.move(4, 22, 20, 1));
        dueRefused("BEYOND ahead of KEY", Bench.BEYOND, m -> m.move(6, 55, 53, 5));
        Bench.sentence("FULL: one would be 12 deep under the root. KEY: as of take().");
        dueRefused("a leaf 12 deep", Bench.FULL, m -> m.move(4, 22, 20, 0));
        dueRefused("what is under it 12 deep", Bench.FULL, m -> m.move(4, 21, 19, 0));
        dueRefused("FULL ahead of KEY", Bench.FULL, m -> m.move(4, 21, 19, 1));
        dueRefused("KEY with one behind", Bench.KEY, m -> m.move(6, 55, 53, 0));
        dueRefused("KEY with one ahead", Bench.KEY, m -> m.move(6, 55, 53, 4));
    }

    private static void secondTrees() {
        Bench.sentence("Each act tells its findings in the order in which they are asked here");
        dueSecondTree("distance", BranchMender::distance);
        dueSecondTree("map", BranchMender::map);
        dueSecondTree("same", BranchMender::same);
        dueSecondTree("shared", BranchMender::shared);
    }

    private interface TwoPlaces {
        int on(BranchMender mender, int p, int q);
    }

    private static void dueSecondTree(String what, TwoPlaces call) {
        dueRefused(what + ", p BEYOND, q NOTHING", Bench.BEYOND, m -> call.on(m, 8, EMPTY));
        dueRefused(what + ", p NOTHING, q BEYOND", Bench.NOTHING, m -> call.on(m, EMPTY, 8));
        dueRefused(what + ", both BEYOND", Bench.BEYOND, m -> call.on(m, -1, 8));
        dueRefused(what + ", both NOTHING", Bench.NOTHING, m -> call.on(m, EMPTY, EMPTY));
    }

    private static void rows() {
        Bench.sentence("NONE: there is no such pair, act, clash. BEYOND: another what.");
        int[] none = {-1, 200, Bench.MIN, Bench.MAX};
        int[] others = {-1, 3, Bench.MIN, Bench.MAX};
        for (int k = 0; k < 4; k++) {
            int i = none[k];
            int what = others[k];
            dueRefused("pair " + i, Bench.NONE, m -> m.pair(i, 0));
            dueRefused("act " + i, Bench.NONE, m -> m.act(i, 0));
            dueRefused("clash " + i, Bench.NONE, m -> m.clash(i, 0));
            dueRefused("pair, NONE ahead of BEYOND", Bench.NONE, m -> m.pair(i, what));
            dueRefused("act, NONE ahead of BEYOND", Bench.NONE, m -> m.act(i, what));
            dueRefused("clash, NONE ahead of BEYOND", Bench.NONE, m -> m.clash(i, what));
            dueRefused("pair's " + what, Bench.BEYOND, m -> m.pair(0, what));
            dueRefused("act's " + what, Bench.BEYOND, m -> m.act(0, what));
            dueRefused("clash's " + what, Bench.BEYOND, m -> m.clash(0, what));
        }
        dueRefused("pair's 2", Bench.BEYOND, m -> m.pair(0, 2));
        dueRefused("clash's 2", Bench.BEYOND, m -> m.clash(0, 2));
        dueRefused("the clash behind the last", Bench.NONE, m -> m.clash(1, 0));
    }

    private static void merges() {
        Bench.sentence("Tree o. Tree l. Tree r. BEYOND: to isn't 0 .. 7.");
        dueRefused("o BEYOND, l NOTHING", Bench.BEYOND, m -> m.merge(8, EMPTY, EMPTY, 8));
        dueRefused("o NOTHING, l BEYOND", Bench.NOTHING, m -> m.merge(EMPTY, 8, 8, 8));
        dueRefused("l BEYOND, r NOTHING", Bench.BEYOND, m -> m.merge(0, 8, EMPTY, 8));
        dueRefused("l NOTHING, r BEYOND", Bench.NOTHING, m -> m.merge(0, EMPTY, 8, 8));
        dueRefused("r NOTHING, to BEYOND", Bench.NOTHING, m -> m.merge(0, 1, EMPTY, 8));
        dueRefused("to BEYOND, roots would clash", Bench.BEYOND, m -> m.merge(0, 1, 4, 8));
    }

    private static void founds() {
        Bench.sentence("BEYOND: another number (counted, too)");
        int[] others = {0, 1, -8, -10, Bench.MIN, Bench.MAX};
        for (int other : others) {
            dueRefused("found of " + other, Bench.BEYOND, m -> m.found(other));
        }
    }
}
