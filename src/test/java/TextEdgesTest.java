/** The edges of texts of trees: each sentence of the document's term 2 and of read(), by itself. */
public final class TextEdgesTest {
    private static final String LETTERS = "abcdefghijklmnopqrstuvwxyz";
    private static final String SIGNS = LETTERS + "0123456789";

    private TextEdgesTest() {
    }

    public static void main(String[] args) {
        firstByteThatCannotStand();
        endsTooSoon();
        endsInTime();
        textWhenEqualsStands();
        seventhLetter();
        ninthSign();
        thirtyFirstNode();
        twelveDeep();
        keyedTwins();
        keyedTwinsReadWhole();
        keyedNoTwins();
        firstOfManyWrongs();
        writtenShort();
        writtenWithAllItHas();
        answersTenLess();
        fullTape();
        tapeIsEmptyThen();
        wrongLeavesThePlace();
        placeBeyond();
        Bench.end("edges of texts");
    }

    private static int readAlone(String text) {
        return Bench.read(new BranchMender(), 0, text);
    }

    private static void dueWrong(String text, int wrong) {
        Bench.due("read of " + text, readAlone(text), -10 - wrong);
    }

    private static void dueNodes(String text, int nodes) {
        Bench.due("read of " + text, readAlone(text), nodes);
    }

    /** What may come next, for each of the 256 bytes; a zero byte behind it can stand nowhere. */
    private static void dueNext(String text, String allowed) {
        for (char next = 0; next < 256; next++) {
            int wrong = text.length() + (allowed.indexOf(next) >= 0 ? 1 : 0);
            Bench.due("byte " + (int) next + " behind " + text, readAlone(text + next + '\0'), -10 - wrong);
        }
    }

    private static void firstByteThatCannotStand() {
        Bench.sentence("WRONG is the first byte that can't stand there");
        dueNext("", LETTERS);
        dueNext("a", LETTERS + "=({<!");
        dueNext("abcdef", "=({<!");
        dueNext("a=", SIGNS);
        dueNext("a=1", SIGNS + "({<!");
        dueNext("a=z", SIGNS + "({<!");
        dueNext("a=12345678", "({<!");
        dueNext("a(", LETTERS);
        dueNext("a{", LETTERS + "}");
        dueNext("a<", LETTERS + ">");
        dueNext("a=1(", LETTERS);
        dueNext("a=1{", LETTERS + "}");
        dueNext("a=1<", LETTERS + ">");
        dueNext("a!", "");
        dueNext("a=1!", "");
        dueNext("a(b)", "");
        dueNext("a{b}", "");
        dueNext("a<b>", "");
        dueNext("a{}", "");
        dueNext("a<>", "");
        dueNext("a(b", LETTERS + "=({<!,)");
        dueNext("a{b", LETTERS + "=({<!,}");
        dueNext("a<b", LETTERS + "=({<!,>");
        dueNext("a(b,", LETTERS);
        dueNext("a{b,", LETTERS);
        dueNext("a<b,", LETTERS.replace("b", ""));
        dueNext("a(bcdefg", "=({<!,)");
        dueNext("a(b=1", SIGNS + "({<!,)");
        dueNext("a{b=12345678", "({<!,}");
        dueNext("a<b!", ",>");
        dueNext("a(b{}", ",)");
        dueNext("a{b<>", ",}");
        dueNext("a<b(c)", ",>");
        dueNext("a(b{c}", ",)");
        dueNext("a{b<c>", ",}");
        dueNext("a(b,c{d<e", LETTERS + "=({<!,>");
        dueNext("a(b,c{d<e>", ",}");
        dueNext("a(b,c{d<e>}", ",)");
        dueNext("a(b,c{d<e>})", "");
    }

    private static void endsTooSoon() {
        Bench.sentence("the length, if it ends too soon");
        String[] texts = {"", "a=", "a(", "a{", "a<", "a=1(", "a(b", "a{b", "a<b", "a(b,", "a{b,", "a<b,", "a(b=", "a(b=1",
            "a(b!", "a(b{}", "a(b{", "a(b(c)", "a{b<c>", "a<b{c}", "a(b,c{d<e>}", "abcdef=12345678{abcdef=12345678"};
        for (String text : texts) {
            dueWrong(text, text.length());
        }
    }

    private static void endsInTime() {
        Bench.sentence("NODE: label [ = text ] [ ( NODES ) | { [NODES] } | < [NODES] > | ! ]");
        String[] texts = {"a", "z", "abcdef", "a=0", "a=12345678", "a!", "a=9!", "a{}", "a<>", "a=z{}", "a=z<>"};
        for (String text : texts) {
            dueNodes(text, 1);
            Bench.due("written", Bench.written(Bench.with(text), 0), text);
        }
        dueNodes("a(b)", 2);
        dueNodes("a{b}", 2);
        dueNodes("a<b>", 2);
        dueNodes("a(b,b)", 3);
        dueNodes("a{b,b}", 3);
        dueNodes("a<b,c>", 3);
        Bench.sentence("With { } it is a BAG, with < > a KEYED, with ! a WHOLE, otherwise a BRANCH.");
        BranchMender mender = Bench.with("a", "a(b)", "a{}", "a{b}", "a<>", "a<b>", "a!");
        int[] kinds = {0, 0, 1, 1, 2, 2, 3};
        for (int p = 0; p < kinds.length; p++) {
            Bench.due("kind of tree " + p, mender.node(p, 0, 1), kinds[p]);
        }
    }

    private static void textWhenEqualsStands() {
        Bench.sentence("(A text is one figure or letter at least, when = stands.)");
        dueWrong("a=", 2);
        dueWrong("a=!", 2);
        dueWrong("a=(b)", 2);
        dueWrong("a={}", 2);
        dueWrong("a(b=)", 4);
        dueWrong("a(b=,c)", 4);
        dueNodes("a=0", 1);
        dueNodes("a=a", 1);
    }

    private static void seventhLetter() {
        Bench.sentence("(the label's seventh letter");
        dueNodes("abcdef", 1);
        dueWrong("abcdefg", 6);
        dueWrong("zzzzzzzzzzzz", 6);
        dueWrong("a(abcdefg)", 8);
        dueWrong("a<b,abcdefg>", 10);
        dueWrong("a{b,bcdefgh=1}", 10);
    }

    private static void ninthSign() {
        Bench.sentence("the text's ninth sign");
        dueNodes("a=12345678", 1);
        dueNodes("a=abcdefgh", 1);
        dueWrong("a=123456789", 10);
        dueWrong("a=12345678a", 10);
        dueWrong("a(b=abcdefghi)", 12);
        dueWrong("abcdef=a1b2c3d4e5", 15);
    }

    private static void thirtyFirstNode() {
        Bench.sentence("the first byte of a label of a 31st node");
        dueNodes(Bench.flat(30), 30);
        dueWrong(Bench.flat(31), 60);
        dueWrong(Bench.flat(32), 60);
        String open = Bench.flat(30).replace(")", "");
        dueNext(open + ",", "");
        dueNext(open + "(", "");
        dueNext(open + "{", "}");
        dueNext(open + "<", ">");
        dueWrong(open + ",ccccccc)", 60);
        dueWrong(open + ",c=)", 60);
        dueNodes(open + "{})", 30);
        String keyed = "r<a,b,d,e,f,g,h,i,j,k,l,m,n,o,p,q,r,s,t,u,v,w,x,y,z,aa,ab,ac,ad";
        dueNodes(keyed + ">", 30);
        dueWrong(keyed + ",ae>", keyed.length() + 1);
        dueWrong(keyed + ",a>", keyed.length() + 1);
        String nested = "r(" + "c(d),".repeat(14) + "c";
        dueNodes(nested + ")", 30);
        dueWrong(nested + "(d))", nested.length() + 1);
        dueWrong(nested + ",c)", nested.length() + 1);
    }

    private static void twelveDeep() {
        Bench.sentence("of a node 12 deep under the root");
        dueNodes(Bench.chain(12), 12);
        dueWrong(Bench.chain(13), 24);
        dueWrong(Bench.chain(14), 24);
        String open = "a(".repeat(11) + "a";
        String close = ")".repeat(11);
        dueNext(open + "(", "");
        dueNext(open + "{", "}");
        dueNext(open + "<", ">");
        dueNext(open + ",", LETTERS);
        dueNodes(open + "{}" + close, 12);
        dueNodes(open + "<>,b!" + close, 13);
        dueWrong(open + "{b}" + close, 24);
        dueWrong(open + "(b=)" + close, 24);
        String[] openers = {"a{", "a<"};
        for (String opener : openers) {
            dueWrong(opener.repeat(12) + "a", 24);
            dueWrong(opener.repeat(11) + "a", 23);
        }
        String late = "a(b(c),d," + "a(".repeat(10);
        dueNodes(late + "a" + close, 15);
        dueWrong(late + "a(b)" + close, late.length() + 2);
    }

    private static void keyedTwins() {
        Bench.sentence("or of a KEYED's child whose label, read whole, is that of an earlier one");
        dueWrong("a<b,b>", 4);
        dueWrong("a<b,c,b>", 6);
        dueWrong("a<b,c,c>", 6);
        dueWrong("a<b,c,d,c,b>", 8);
        dueWrong("a<abcdef,abcdef>", 9);
        dueWrong("a<b=1,b=2>", 6);
        dueWrong("a<b!,b>", 5);
        dueWrong("a<b{},b(x)>", 6);
        dueWrong("a<b(c,d),b>", 9);
        dueWrong("a(k<b,b>)", 6);
        dueWrong("a<k<b,b>>", 6);
        dueWrong("a{b,b,k<b,b>}", 10);
        dueWrong("a<k<b>,k>", 7);
    }

    private static void keyedTwinsReadWhole() {
        Bench.sentence("label, read whole");
        dueNodes("a<b,bb,bbb>", 4);
        dueNodes("a<bb,b>", 3);
        dueNodes("a<abcde,abcdef>", 3);
        dueNodes("a<abcdef,abcdee>", 3);
        dueWrong("a<b,bb,bb>", 7);
        dueWrong("a<b,b", 4);
        dueWrong("a<b,b?", 4);
        dueWrong("a<b,b=", 4);
        dueWrong("a<b,b=?", 4);
        dueWrong("a<b,bc", 6);
        dueWrong("a<abcdef,abcdefg>", 15);
    }

    private static void keyedNoTwins() {
        Bench.sentence("of a KEYED's child");
        dueNodes("a<a>", 2);
        dueNodes("a<b(c),c>", 4);
        dueNodes("a<c,b(c)>", 4);
        dueNodes("a<b(x,x),c{x,x}>", 7);
        dueNodes("a<b<x>,c<x>>", 5);
        dueNodes("a(k<b>,b,b)", 5);
        dueNodes("a{b,b}", 3);
        dueNodes("a(b,b)", 3);
    }

    private static void firstOfManyWrongs() {
        Bench.sentence("WRONG is the first byte");
        dueWrong("a=123456789(abcdefg)", 10);
        dueWrong("abcdefg=", 6);
        dueWrong("a<b,b>)", 4);
        dueWrong("A<b,b>", 0);
        dueWrong("a)" + Bench.chain(13), 1);
        dueWrong("a<b,c)", 5);
    }

    private static void writtenShort() {
        Bench.sentence("It is written likewise, with all that it has, as short as can be.");
        BranchMender mender = Bench.with("a=1(b=2(c),d{e},f<g>,h{},i<>,w!,x)");
        Bench.due("as it was read", Bench.written(mender, 0), "a=1(b=2(c),d{e},f<g>,h{},i<>,w!,x)");
        mender.take(0, 2);
        mender.take(0, 4);
        mender.take(0, 6);
        Bench.due("empty: a BRANCH bare, a BAG and a KEYED not", Bench.written(mender, 0), "a=1(b=2,d{},f<>,h{},i<>,w!,x)");
        mender.retext(0, 0);
        mender.retext(0, 1);
        Bench.due("no text, no =", Bench.written(mender, 0), "a(b,d{},f<>,h{},i<>,w!,x)");
        Bench.due("a new BRANCH, BAG, KEYED",
            Bench.put(mender, "n", 10, 0, 0, 0) + Bench.put(mender, "m", 10, 1, 1, 0) + Bench.put(mender, "k", 10, 2, 2, 0),
            11 + 12 + 13);
        Bench.due("each empty", Bench.written(mender, 0), "a(b,d{},f<>,h{},i<>,w!,x(n,m{},k<>))");
    }

    private static void writtenWithAllItHas() {
        Bench.sentence("with all that it has");
        Bench.due("one byte", Bench.written(Bench.with("a"), 0), "a");
        Bench.due("the deepest", Bench.written(Bench.with(Bench.chain(12)), 0), Bench.chain(12));
        Bench.due("the widest", Bench.written(Bench.with(Bench.flat(30)), 0), Bench.flat(30));
        StringBuilder longest = new StringBuilder("abcdef=12345678{");
        BranchMender mender = Bench.with("abcdef{" + "abcdef{},".repeat(28) + "abcdef{}}");
        Bench.retext(mender, 0, 0, "12345678");
        for (int name = 1; name < 30; name++) {
            Bench.due("retext", Bench.retext(mender, 0, name, "12345678"), 8);
            longest.append(name == 1 ? "" : ",").append("abcdef=12345678{}");
        }
        longest.append('}');
        int length = mender.write(0);
        Bench.due("longer than a tape can be", length, longest.length());
        for (int i = length - 300; i < length; i++) {
            Bench.due("letter " + i, mender.letter(i), (int) longest.charAt(i));
        }
        Bench.due("behind the longest", mender.letter(length), -1);
    }

    private static void answersTenLess() {
        Bench.sentence("how many nodes it has; -10 less WRONG");
        dueNodes("a", 1);
        Bench.due("the least WRONG: an empty tape", new BranchMender().read(0), -10);
        Bench.due("the first byte", readAlone("?"), -10);
        String nearly = "r(" + "abcdef=12345678{},".repeat(22);
        Bench.due("the last byte of a full tape", readAlone(nearly + "a?"), -10 - 399);
        Bench.due("the greatest WRONG: the length of a full tape", readAlone(nearly + "ab"), -10 - 400);
    }

    private static void fullTape() {
        Bench.sentence("The tape (empty then) is read as a tree");
        String full = "r(" + "abcdef=12345678{},".repeat(22) + "b)";
        Bench.due("a tape that is full", full.length(), 400);
        dueNodes(full, 24);
        Bench.due("written again", Bench.written(Bench.with(full), 0), full);
    }

    private static void tapeIsEmptyThen() {
        Bench.sentence("The tape (empty then)");
        BranchMender mender = Bench.with("a(b)");
        Bench.due("empty behind a tree", mender.feed('c', 1), 1);
        Bench.due("only what came since", mender.read(1), 1);
        Bench.due("an empty tape is no tree", mender.read(1), -10);
        Bench.sentence("(read() also empties the tape)");
        Bench.feed(mender, "a(b");
        Bench.due("WRONG", mender.read(0), -13);
        Bench.due("empty behind WRONG", mender.feed('d', 1), 1);
        Bench.due("only what came since", mender.read(1), 1);
        Bench.due("written", Bench.written(mender, 1), "d");
    }

    private static void wrongLeavesThePlace() {
        Bench.sentence("an act that answers one changes nothing but what found() tells");
        BranchMender mender = Bench.with("a(b,c)");
        Bench.due("WRONG at its end", Bench.read(mender, 0, "x(y,z"), -15);
        Bench.due("the tree stays", Bench.written(mender, 0) + Bench.names(mender, 0), "a(b,c)0 1 2");
        Bench.due("WRONG at an empty place", Bench.read(mender, 1, "x(y,z"), -15);
        Bench.due("none there", mender.size(1), Bench.NOTHING);
        Bench.due("no names are used", Bench.read(mender, 1, "x") + mender.node(1, 0, 0), 1 + 3);
        Bench.due("counted", mender.found(-9), 2);
    }

    private static void placeBeyond() {
        Bench.sentence("BEYOND: p isn't 0 .. 7 (the tape stays).");
        int[] beyond = {-1, 8, Bench.MIN, Bench.MAX};
        for (int p : beyond) {
            BranchMender mender = new BranchMender();
            Bench.feed(mender, "a(b");
            Bench.due("read at " + p, mender.read(p), Bench.BEYOND);
            Bench.due("the tape stays", mender.feed(')', 1), 4);
            Bench.due("and is read", mender.read(0), 2);
            Bench.due("no WRONG was counted", mender.found(-9), 0);
        }
        int[] within = {0, 7};
        for (int p : within) {
            Bench.due("read at " + p, Bench.read(new BranchMender(), p, "a"), 1);
        }
    }
}
